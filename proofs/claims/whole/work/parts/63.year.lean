/-! year -/
abbrev Yt : Type := Sb × Nat × Nat
def yD (y : Yt) (d k : Nat) : Yt := if whyD y.1 d k = 0 then (doD y.1 d k, y.2.1, y.2.2 + if d = 2 then 1 else 0) else y
def yE (y : Yt) (lot : Nat) : Yt := if whyE y.1 lot false = 0 then (doE y.1 lot, y.2.1 + 1, y.2.2) else y
def yL (x : Nat) : Nat := 2 ^ (x % 12) ||| 2 ^ (x / 72 % 6 + if 6 ≤ x % 12 then 0 else 6)
def yS (y : Yt) (x : Nat) : Yt := if 3 < x / 12 % 6 then yE y (yL x) else yD y (x / 12 % 6) (x % 12)
def nx (x : Nat) : Nat := (75 * x + 74) % 65537
def yR : Nat → Yt → Nat → Yt
  | 0, y, _ => y
  | n + 1, y, x => yR n (yS y (nx x)) (nx x)
def YX (y : Yt) (M : Mm) : Prop := XK 28 y.1 M ∧ M.1 27 1 = nI y.2.1 ∧ M.1 27 2 = nI y.2.2
def YM (y : Yt) (M : Mm) : Prop := MK y.1 M ∧ M.1 0 15 = nI y.2.1 ∧ M.1 0 16 = nI y.2.2
def FrY (M M' : Mm) : Prop := ∀ a, ¬ (27 ≤ a ∧ a ≤ 32) → M'.1 a = M.1 a
theorem nx_lt (x : Nat) : nx x < 65537 := Nat.mod_lt _ (by decide)
theorem yL_lt (x : Nat) : yL x < 4096 := by
  unfold yL
  apply or_lt4
  · exact pow_lt4 (by omega)
  · apply pow_lt4
    split <;> omega
theorem yS_OK {y : Yt} (h : OK y.1) (x : Nat) : OK (yS y x).1 := by
  unfold yS yE yD
  split
  · split
    · exact doE_OK h _
    · exact h
  · split
    · rename_i h1 h2
      exact doD_OK h (by omega) h2 (by omega)
    · exact h
theorem jrem_nI {a d : Nat} (ha : a < 2 ^ 31) (h0 : 0 < d) (hd : d < 2 ^ 31) : jrem (nI a) (nI d) = nI (a % d) := pk_rem ha h0 hd
theorem jlrem_lN {a d : Nat} (ha : a < 2 ^ 63) (h0 : 0 < d) (hd : d < 2 ^ 63) : jlrem (lN a) (lN d) = lN (a % d) := pk_lRem ha h0 hd
theorem XK_27 {b : Sb} {M : Mm} {c : Nat} (hX : XK c b M) (hc : c = 28 ∨ c = 9) {d : Nat} (hd : d = 27 ∨ d = 8) (j : Nat) (v : Int32) : XK c b (sI M d j v) := XK_fr (fun a h1 h2 => sI_n (by omega)) hX
theorem draw_x {y : Yt} {M : Mm} (hY : YX y M) (hO : OK y.1) {x : Nat} (hx : x < 65537) : ∃ M', fX7_draw (nI x) M = some ((), M') ∧ YX (yS y x) M' ∧ FrY M M' := by
  obtain ⟨hX, h1, h2⟩ := hY
  unfold fX7_draw
  rw [pk_div (by omega) (by decide) (by decide), pk_div (by omega) (by decide) (by decide), jrem_nI (by omega) (by decide) (by decide), jrem_nI (by omega) (by decide) (by decide), jrem_nI (by omega) (by decide) (by decide)]
  have e3 : nI 3 < nI (x / 12 % 6) ↔ 3 < x / 12 % 6 := nI_ltI (by decide) (by omega)
  have e6 : nI 6 ≤ nI (x % 12) ↔ 6 ≤ x % 12 := nI_leI (by decide) (by omega)
  unfold yS
  by_cases h3 : 3 < x / 12 % 6
  · rw [if_pos (e3.mpr h3), if_pos h3]
    have key : (if nI 6 ≤ nI (x % 12) then fX7_draw_b57 (jshl (nI 1) (nI (x % 12))) (nI 1) (nI (x / 72 % 6)) M else fX7_draw_b57 (jshl (nI 1) (nI (x % 12))) (nI 1) (nI (x / 72 % 6) + nI 6) M) = bd (fX7_tryExchange (nI (yL x)) M) fun _ M1 => some ((), M1) := by
      unfold fX7_draw_b57
      rw [nI_add, j2k (by omega), j2k (by omega), j2k (by omega), nI_or, nI_or]
      unfold yL
      by_cases h6 : 6 ≤ x % 12
      · rw [if_pos (e6.mpr h6), if_pos h6, Nat.add_zero]
      · rw [if_neg (fun z => h6 (e6.mp z)), if_neg h6]
    rw [key]
    unfold fX7_tryExchange
    have hw := whyEx_c hX hO (yL_lt x) false
    rw [show nI false.toNat = nI 0 from rfl] at hw
    rw [hw, bd_s]
    have ew : nI (whyE y.1 (yL x) false) = nI 0 ↔ whyE y.1 (yL x) false = 0 := nI_z (by have := whyE_lt y.1 (yL x) false; omega)
    unfold yE
    by_cases h0 : whyE y.1 (yL x) false = 0
    · obtain ⟨M1, e1, hX1, hf⟩ := setFree_c hX hO (yL_lt x)
      rw [if_pos (ew.mpr h0), if_pos h0, e1, bd_s, bd_s, hf.1 27 (by decide), h1, nI_1']
      exact ⟨_, rfl, ⟨XK_27 hX1 (by decide) (by decide) _ _, sI_s _ _ _ _, by rw [sI_j _ (by decide), hf.1 27 (by decide)]; exact h2⟩, fun a ha => by rw [sI_n (by omega), hf.1 a (by omega)]⟩
    · rw [if_neg (fun z => h0 (ew.mp z)), if_neg h0, bd_s]
      exact ⟨M, rfl, ⟨hX, h1, h2⟩, fun _ _ => rfl⟩
  · rw [if_neg (fun z => h3 (e3.mp z)), if_neg h3]
    unfold fX7_tryDeed
    have hk : x % 12 < 12 := by omega
    have hd : x / 12 % 6 < 4 := by omega
    rw [whyNot_c hX hO hk hd, bd_s]
    have ew : nI (whyD y.1 (x / 12 % 6) (x % 12)) = nI 0 ↔ whyD y.1 (x / 12 % 6) (x % 12) = 0 := nI_z (by have := whyD_lt y.1 (x / 12 % 6) (x % 12); omega)
    unfold yD
    by_cases h0 : whyD y.1 (x / 12 % 6) (x % 12) = 0
    · obtain ⟨M1, e1, hX1, hf⟩ := carry_c hX hO hk hd h0
      rw [if_pos (ew.mpr h0), if_pos h0, e1, bd_s, hf.1 27 (by decide), h2, nI_1', nI_add]
      have e2 : nI (x / 12 % 6) = nI 2 ↔ x / 12 % 6 = 2 := nI_eq (by omega) (by decide)
      have key : (if nI (x / 12 % 6) = nI 2 then some ((), sI M1 27 2 (nI (y.2.2 + 1))) else some ((), sI M1 27 2 (nI (y.2.2 + 0))) : Option (Unit × Mm)) = some ((), sI M1 27 2 (nI (y.2.2 + if x / 12 % 6 = 2 then 1 else 0))) := by
        by_cases h : x / 12 % 6 = 2
        · rw [if_pos (e2.mpr h), if_pos h]
        · rw [if_neg (fun z => h (e2.mp z)), if_neg h]
      rw [key, bd_s]
      exact ⟨_, rfl, ⟨XK_27 hX1 (by decide) (by decide) _ _, by rw [sI_j _ (by decide), hf.1 27 (by decide)]; exact h1, sI_s _ _ _ _⟩, fun a ha => by rw [sI_n (by omega), hf.1 a (by omega)]⟩
    · rw [if_neg (fun z => h0 (ew.mp z)), if_neg h0, bd_s]
      exact ⟨M, rfl, ⟨hX, h1, h2⟩, fun _ _ => rfl⟩
theorem pass_b {c m : Nat} (hm : m < 100) : ∀ n i y x M, i ≤ m → m < i + n → x < 65537 → OK y.1 → YX y M → ∃ M', fX7_pass_b24 c n (nI m) (nI x) (nI i) M = some ((), M') ∧ YX (yR (m - i) y x) M' ∧ FrY M M' := by
  intro n
  induction n with
  | zero => intro i y x M h1 h2; omega
  | succ n ih =>
    intro i y x M h1 h2 hx hO hY
    rw [fX7_pass_b24]
    by_cases hi : i = m
    · subst hi
      rw [if_pos (nI_le (Nat.le_refl _) (by omega)), Nat.sub_self]
      exact ⟨M, rfl, hY, fun _ _ => rfl⟩
    · rw [if_neg (nI_ge (by omega) (by omega)), pk_mul, nI_add, jrem_nI (by omega) (by decide) (by decide)]
      have hl := nx_lt x
      obtain ⟨M1, e1, hY1, hf1⟩ := draw_x hY hO hl
      obtain ⟨M2, e2, hY2, hf2⟩ := ih (i + 1) (yS y (nx x)) (nx x) M1 (by omega) (by omega) hl (yS_OK hO _) hY1
      unfold nx at e1 e2
      rw [e1, bd_s, nI_1', e2, show m - i = (m - (i + 1)) + 1 by omega]
      exact ⟨M2, rfl, hY2, fun a ha => by rw [hf2 a ha, hf1 a ha]⟩
theorem step_m {y : Yt} {M : Mm} (hY : YM y M) (hO : OK y.1) {x : Nat} (hx : x < 65537) (nxt : Int32 → Int32 → Int32 → Int32 → Mm → Option (Int32 × Mm)) (v2 v3 v4 v5 : Int32) : ∃ M', fX9_year_b125 nxt v2 v3 v4 v5 (nI (x % 12)) (nI (x / 12 % 6)) (nI (x / 72 % 6)) (nI (if 6 ≤ x % 12 then 0 else 6)) M = nxt v2 v3 v4 (v5 + nI 1) M' ∧ YM (yS y x) M' ∧ FrM M M' := by
  obtain ⟨hX, h1, h2⟩ := hY
  have h8 : x / 72 % 6 + (if 6 ≤ x % 12 then 0 else 6) < 12 := by split <;> omega
  unfold fX9_year_b125
  rw [nI_add]
  unfold fX9_year_b140 fX9_year_b160
  have e3 : nI 4 ≤ nI (x / 12 % 6) ↔ 3 < x / 12 % 6 := by rw [nI_leI (by decide) (by omega)]; omega
  unfold yS
  by_cases h3 : 3 < x / 12 % 6
  · rw [if_pos (e3.mpr h3), if_pos h3, if_pos rfl, j2k (by omega), j2k (by omega), nI_or]
    rw [show 2 ^ (x % 12) ||| 2 ^ (x / 72 % 6 + if 6 ≤ x % 12 then 0 else 6) = yL x from rfl]
    have hw := whyEx_m hX hO (yL_lt x) false
    rw [show nI false.toNat = nI 0 from rfl] at hw
    rw [hw, bd_s]
    have ew : nI (whyE y.1 (yL x) false) = nI 0 ↔ whyE y.1 (yL x) false = 0 := nI_z (by have := whyE_lt y.1 (yL x) false; omega)
    unfold yE
    by_cases h0 : whyE y.1 (yL x) false = 0
    · obtain ⟨M1, e1, hX1, hf, h15, h16⟩ := happen_e hX hO (yL_lt x) h1
      rw [if_pos (ew.mpr h0), if_pos h0, e1, bd_s]
      exact ⟨M1, rfl, ⟨hX1, h15, by rw [h16]; exact h2⟩, hf⟩
    · rw [if_neg (fun z => h0 (ew.mp z)), if_neg h0]
      exact ⟨M, rfl, ⟨hX, h1, h2⟩, fun _ _ => rfl, fun _ _ _ _ => rfl⟩
  · have hk : x % 12 < 12 := by omega
    have hd : x / 12 % 6 < 4 := by omega
    rw [if_neg (fun z => h3 (e3.mp z)), if_neg h3, if_neg (fun z => by have := (nI_eq (by omega) (by decide)).mp z; omega), j2k (by omega), nI_or, Nat.or_zero, whyNot_m hX hO hk hd, bd_s]
    have ew : nI (whyD y.1 (x / 12 % 6) (x % 12)) = nI 0 ↔ whyD y.1 (x / 12 % 6) (x % 12) = 0 := nI_z (by have := whyD_lt y.1 (x / 12 % 6) (x % 12); omega)
    unfold yD
    by_cases h0 : whyD y.1 (x / 12 % 6) (x % 12) = 0
    · obtain ⟨M1, e1, hX1, hf, h15, h16⟩ := happen_d hX hO hk hd h2
      rw [if_pos (ew.mpr h0), if_pos h0, e1, bd_s]
      exact ⟨M1, rfl, ⟨hX1, by rw [h15]; exact h1, h16⟩, hf⟩
    · rw [if_neg (fun z => h0 (ew.mp z)), if_neg h0]
      exact ⟨M, rfl, ⟨hX, h1, h2⟩, fun _ _ => rfl, fun _ _ _ _ => rfl⟩
theorem year_b {m : Nat} (hm : m < 100) (v3 : Int32) : ∀ n i y x M, i ≤ m → m < i + n → x < 65537 → OK y.1 → YM y M → ∃ M', fX9_year_b63 n (nI m) v3 (nI x) (nI i) M = fX9_year_b189 v3 M' ∧ YM (yR (m - i) y x) M' ∧ FrM M M' := by
  intro n
  induction n with
  | zero => intro i y x M h1 h2; omega
  | succ n ih =>
    intro i y x M h1 h2 hx hO hY
    rw [fX9_year_b63]
    by_cases hi : i = m
    · subst hi
      rw [if_pos (nI_le (Nat.le_refl _) (by omega)), Nat.sub_self]
      exact ⟨M, rfl, hY, fun _ _ => rfl, fun _ _ _ _ => rfl⟩
    · have hl := nx_lt x
      have ex : (jlrem (lN 75 * (nI x).toInt64 + lN 74) (lN 65537)).toInt32 = nI (nx x) := by
        rw [nI_l (by omega), lN_mul, lN_add, jlrem_lN (by omega) (by decide) (by decide), lN_i]; rfl
      rw [if_neg (nI_ge (by omega) (by omega)), ex, pk_div (by omega) (by decide) (by decide), pk_div (by omega) (by decide) (by decide), jrem_nI (by omega) (by decide) (by decide), jrem_nI (by omega) (by decide) (by decide), jrem_nI (by omega) (by decide) (by decide)]
      have e6 : nI 6 ≤ nI (nx x % 12) ↔ 6 ≤ nx x % 12 := nI_leI (by decide) (by omega)
      obtain ⟨M1, e1, hY1, hf1⟩ := step_m hY hO hl (fX9_year_b63 n) (nI m) v3 (nI (nx x)) (nI i)
      obtain ⟨M2, e2, hY2, hf2⟩ := ih (i + 1) (yS y (nx x)) (nx x) M1 (by omega) (by omega) hl (yS_OK hO _) hY1
      refine ⟨M2, ?_, by rw [show m - i = (m - (i + 1)) + 1 by omega]; exact hY2, fun a ha => by rw [hf2.1 a ha, hf1.1 a ha], fun j h1 h2 h3 => by rw [hf2.2 j h1 h2 h3, hf1.2 j h1 h2 h3]⟩
      rw [nI_1'] at e1
      rw [← e2, ← e1]
      by_cases h6 : 6 ≤ nx x % 12
      · rw [if_pos (e6.mpr h6), if_pos h6]
      · rw [if_neg (fun z => h6 (e6.mp z)), if_neg h6]
theorem RM_hk {S : Sa} {M M' : Mm} (hM : RM S M) (hk : MK S.1 M') (h0 : ∀ j, j = 8 ∨ j = 10 → M'.1 0 j = M.1 0 j) (ha : ∀ a, (4 ≤ a ∧ a ≤ 7) ∨ a = 16 ∨ a = 17 → M'.1 a = M.1 a) : RM S M' :=
  ⟨hk, MG_fr (h0 8 (by decide)) (ha 4 (by decide)) (ha 5 (by decide)) (ha 6 (by decide)) hM.2.1, PM_fr (h0 10 (by decide)) (ha 7 (by decide)) (ha 16 (by decide)) (ha 17 (by decide)) hM.2.2⟩
theorem op_year : Op_year Rl := by
  intro x1 x2 x3 Mx M_ hR
  obtain ⟨S, hS, hX, hM⟩ := hR
  have hO := hS.1
  unfold fX8_year fX9_year
  rw [isWithin_nI x1 (by decide) (by decide), bd_s, isWithin_nI x2 (by decide) (by decide), bd_s, isWithin_nI x3 (by decide) (by decide), bd_s, in_nI x1 (by decide) (by decide), bd_s, in_nI x2 (by decide) (by decide), bd_s, in_nI x3 (by decide) (by decide), bd_s]
  simp only [ib0]
  cases h1 : wi x1 0 9999
  · exact ⟨_, _, _, rfl, rfl, S, hS, hX, hM⟩
  · cases h2 : wi x2 1 99
    · exact ⟨_, _, _, rfl, rfl, S, hS, hX, hM⟩
    · cases h3 : wi x3 0 2
      · exact ⟨_, _, _, rfl, rfl, S, hS, hX, hM⟩
      · simp only [if_true]
        obtain ⟨a1, _, g1, rfl⟩ := wi_of (by decide) h1
        obtain ⟨a2, _, g2, rfl⟩ := wi_of (by decide) h2
        obtain ⟨M1, e1, k1, _, f1⟩ := copy_k (c := 28) (d := 1) (by decide) hX.1 hX.2.1 hS.2.1.1
        obtain ⟨M2, e2, k2, f2⟩ := pass_b (c := 1) (m := a2) (by omega) fu 0 (S.1, 0, 0) a1 (sI (sI M1 27 1 (nI 0)) 27 2 (nI 0)) (by omega) (by have : fu = 5000 := rfl; omega) (by omega) hO ⟨XK_27 (XK_27 k1 (by decide) (by decide) _ _) (by decide) (by decide) _ _, by rw [sI_j _ (by decide), sI_s], sI_s _ _ _ _⟩
        obtain ⟨N1, n1, j1, t1⟩ := store_m (c := 11) (by decide) hM.1
        obtain ⟨N2, n2, j2, t2⟩ := year_b (m := a2) (by omega) x3 fu 0 (S.1, 0, 0) a1 (sI (sI N1 0 15 (nI 0)) 0 16 (nI 0)) (by omega) (by have : fu = 5000 := rfl; omega) (by omega) hO ⟨MK_0 (MK_0 (MK_fr (by rw [t1 0 (by decide)]) (by rw [t1 0 (by decide)]) (t1 1 (by decide)) (t1 2 (by decide)) (t1 3 (by decide)) hM.1) (by decide) _) (by decide) _, by rw [sI_j _ (by decide), sI_s], sI_s _ _ _ _⟩
        have q0 : ∀ a, ¬ a ≤ 2 → ¬ a = 11 → N2.1 a = M_.1 a := fun a h1 h2 => by rw [t2.1 a h1, sI_n (by omega), sI_n (by omega), t1 a h2]
        have q1 : ∀ j, j ≠ 1 → j ≠ 15 → j ≠ 16 → N2.1 0 j = M_.1 0 j := fun j h1 h2 h3 => by rw [t2.2 j h1 h2 h3, sI_j _ h3, sI_j _ h2, t1 0 (by decide)]
        obtain ⟨N3, n3, j3, t3, t4⟩ := lay_m (c := 11) (b := S.1) (M := N2) (by decide) (by
          unfold HK
          rw [t2.1 11 (by decide), sI_n (by decide), sI_n (by decide)]; exact j1) (by rw [q1 0 (by decide) (by decide) (by decide)]; exact hM.1.1) (fun j hj => by rw [q0 3 (by decide) (by decide)]; exact hM.1.2.2.2.2 j hj)
        unfold fX7_pass
        rw [e1, bd_s, e2, bd_s, n1, bd_s, n2, fX9_year_b189, n3, bd_s, t4 15 (by decide), t4 16 (by decide), k2.2.1, k2.2.2, k2.1.2.1, j2.2.1, j2.2.2, j2.1.2.1]
        have hrel : Rl M2 N3 := ⟨S, hS, RX_fr (fun a ha => by rw [f2 a (by omega), sI_n (by omega), sI_n (by omega), f1 a (by omega)]) hX, RM_hk hM j3 (fun j hj => by rw [t4 j (by omega), q1 j (by omega) (by omega) (by omega)]) (fun a ha => by rw [t3 a (by omega), q0 a (by omega) (by omega)])⟩
        split
        · exact ⟨_, _, _, rfl, rfl, hrel⟩
        · split
          · exact ⟨_, _, _, rfl, rfl, hrel⟩
          · exact ⟨_, _, _, rfl, rfl, hrel⟩
