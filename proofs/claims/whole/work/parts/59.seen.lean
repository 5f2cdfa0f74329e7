def inL (p : Nat) (x : Int32) : Bool := decide (¬ x = nI 0 ∧ (x &&& (nI p ^^^ mI 1)) = nI 0)
theorem x_toNat (x : Int32) : x = nI x.toBitVec.toNat := by
  apply Int32.toBitVec_inj.mp
  show x.toBitVec = BitVec.ofNat 32 x.toBitVec.toNat
  rw [BitVec.ofNat_toNat]
  simp
theorem inL_of {p : Nat} {x : Int32} (hp : p < 64) (h : inL p x = true) : ∃ j, 1 ≤ j ∧ j < 64 ∧ x = nI j ∧ dif j p = 0 := by
  unfold inL at h
  obtain ⟨h1, h2⟩ := of_decide_eq_true h
  have hx := x_toNat x
  have hlt : x.toBitVec.toNat < 2 ^ 32 := x.toBitVec.isLt
  generalize x.toBitVec.toNat = j at hx hlt
  subst hx
  rw [nI_dif] at h2
  have hd : dif j p = 0 := by
    have hl := dif_lt (b := p) hlt
    have e : (nI (dif j p)).toBitVec.toNat = (nI 0).toBitVec.toNat := by rw [h2]
    rw [pk_tn hl, pk_tn (by decide)] at e
    exact e
  have hj : j < 64 := by
    have : j < 2 ^ 6 := by
      apply Nat.lt_pow_two_of_testBit
      intro i hi
      cases hb : j.testBit i
      · rfl
      · have := dif_zero.mp hd i hb
        rw [Nat.testBit_lt_two_pow (Nat.lt_of_lt_of_le hp (Nat.pow_le_pow_right (n := 2) (by decide) hi))] at this
        cases this
    simpa using this
  refine ⟨j, ?_, hj, rfl, hd⟩
  rcases Nat.eq_zero_or_pos j with e | e
  · exact absurd (by rw [e]) h1
  · exact e
theorem inL_nI {p j : Nat} (hj : j < 64) : inL p (nI j) = (decide (1 ≤ j) && decide (dif j p = 0)) := by
  unfold inL
  rw [nI_dif]
  have hl : dif j p < 2 ^ 6 := dif_lt (by simpa using hj)
  have e1 : ¬ nI j = nI 0 ↔ 1 ≤ j := by rw [nI_z (by omega)]; omega
  have e2 : nI (dif j p) = nI 0 ↔ dif j p = 0 := nI_z (by omega)
  simp only [e1, e2]
  rw [Bool.decide_and]
theorem areThere_n {b : Sb} {M : Mm} (hX : XK 1 b M) (hO : OK b) (x : Int32) {s : Nat} (hs : s < 2) : fX0_areThere 1 x (nI s) M = some (nI (inL (bp b / 2 ^ (s * 6) % 64) x).toNat, M) := by
  unfold fX0_areThere inL
  rw [hX.1, pk_mul, jshr_nI (by have := hO.1; omega) (by omega), nI_63]
  by_cases h1 : x = nI 0
  · rw [if_pos h1, decide_eq_false (fun z => z.1 h1)]; rfl
  · rw [if_neg h1]
    by_cases h2 : (x &&& (nI (bp b / 2 ^ (s * 6) % 64) ^^^ mI 1)) = nI 0
    · rw [if_pos h2, decide_eq_true ⟨h1, h2⟩]; rfl
    · rw [if_neg h2, decide_eq_false (fun z => h2 z.2)]; rfl
theorem cr_bit {i j : Nat} (hi : i < 64) (k : Nat) : (i ||| j * 64).testBit k = if k < 6 then i.testBit k else j.testBit (k - 6) := by
  rw [Nat.testBit_or, show j * 64 = 2 ^ 6 * j by omega, Nat.testBit_two_pow_mul]
  by_cases h : k < 6
  · rw [if_pos h, decide_eq_false (by omega : ¬ k ≥ 6)]; simp
  · rw [if_neg h, decide_eq_true (by omega : k ≥ 6)]
    rw [Nat.testBit_lt_two_pow (Nat.lt_of_lt_of_le (show i < 2 ^ 6 by simpa using hi) (Nat.pow_le_pow_right (n := 2) (by decide) (by omega)))]
    simp
theorem cr_dif {i j p : Nat} (hi : i < 64) : dif (i ||| j * 64) p = 0 ↔ dif i (p % 64) = 0 ∧ dif j (p / 64) = 0 := by
  rw [dif_zero, dif_zero, dif_zero]
  constructor
  · intro h
    constructor
    · intro k hk
      rcases Nat.lt_or_ge k 6 with h6 | h6
      · have := h k (by rw [cr_bit hi, if_pos h6]; exact hk)
        rw [show (64 : Nat) = 2 ^ 6 from rfl, Nat.testBit_mod_two_pow, this, decide_eq_true h6]; rfl
      · rw [Nat.testBit_lt_two_pow (Nat.lt_of_lt_of_le (show i < 2 ^ 6 by simpa using hi) (Nat.pow_le_pow_right (n := 2) (by decide) h6))] at hk
        cases hk
    · intro k hk
      have := h (k + 6) (by rw [cr_bit hi, if_neg (by omega)]; simpa using hk)
      rw [show (64 : Nat) = 2 ^ 6 from rfl, Nat.testBit_div_two_pow]
      exact this
  · rintro ⟨h1, h2⟩ k hk
    rw [cr_bit hi] at hk
    by_cases h6 : k < 6
    · rw [if_pos h6] at hk
      have := h1 k hk
      rw [show (64 : Nat) = 2 ^ 6 from rfl, Nat.testBit_mod_two_pow, Bool.and_eq_true] at this
      exact this.2
    · rw [if_neg h6] at hk
      have := h2 _ hk
      rw [show (64 : Nat) = 2 ^ 6 from rfl, Nat.testBit_div_two_pow, show k - 6 + 6 = k by omega] at this
      exact this
theorem cr_mod {i j : Nat} (hi : i < 64) : (i ||| j * 64) % 64 = i := by
  apply Nat.eq_of_testBit_eq
  intro k
  rw [show (64 : Nat) = 2 ^ 6 from rfl, Nat.testBit_mod_two_pow, cr_bit hi]
  by_cases h6 : k < 6
  · rw [if_pos h6, decide_eq_true h6]; rfl
  · rw [decide_eq_false h6, Nat.testBit_lt_two_pow (Nat.lt_of_lt_of_le (show i < 2 ^ 6 by simpa using hi) (Nat.pow_le_pow_right (n := 2) (by decide) (by omega)))]; rfl
theorem cr_div {i j : Nat} (hi : i < 64) : (i ||| j * 64) / 64 = j := by
  apply Nat.eq_of_testBit_eq
  intro k
  rw [show (64 : Nat) = 2 ^ 6 from rfl, Nat.testBit_div_two_pow, cr_bit hi, if_neg (by omega)]
  simp
theorem cr_lt {i j : Nat} (hi : i < 64) (hj : j < 64) : (i ||| j * 64) < 4096 := or_lt4 (by omega) (by omega)
def sSeen (b : Sb) (cr : Nat) (e : Bool) : Sb := (b.1, (bn b + 1, un (bc b) (bn b) cr, fun i => if i = bn b then e else be b i))
theorem op_seen : Op_seen Rl := by
  intro a1 a2 a3 Mx M_ hz ⟨S, hS, hX, hM⟩
  have hO := hS.1
  have hOS := hS.2.1
  unfold fX8_seen fX9_seen fX9_seen_b28
  simp only [areThere_n hX.1 hO a1 (s := 0) (by decide), areThere_n hX.1 hO a2 (s := 1) (by decide), in_nI a1 (a := 1) (b := 63) (by decide) (by decide), in_nI a2 (a := 1) (b := 63) (by decide) (by decide), bd_s, ib0]
  have hp0 : bp S.1 / 2 ^ (0 * 6) % 64 = bp S.1 % 64 := by simp
  have hp1 : bp S.1 / 2 ^ (1 * 6) % 64 = bp S.1 / 64 := by
    have := hO.1
    show bp S.1 / 64 % 64 = _
    omega
  rw [hp0, hp1]
  have hno : ∀ v1 v2 v3 M, fX9_seen_b29 v1 v2 v3 (nI 0) M = some (mI 1, M) := fun _ _ _ _ => by unfold fX9_seen_b29; rw [if_pos rfl]
  cases hw1 : wi a1 1 63
  · have h : inL (bp S.1 % 64) a1 = false := by
      cases hi : inL (bp S.1 % 64) a1
      · rfl
      · obtain ⟨j, j1, j2, rfl, _⟩ := inL_of (by omega) hi
        exact absurd rfl (wi_ne hw1 j1 (by omega) (by omega))
    rw [h]
    simp only [Bool.false_eq_true, if_false, hno]
    exact ⟨_, _, _, rfl, rfl, S, hS, hX, hM⟩
  obtain ⟨i, i1, i2, rfl⟩ := wi_of (by decide) hw1
  cases hw2 : wi a2 1 63
  · have h : inL (bp S.1 / 64) a2 = false := by
      cases hi : inL (bp S.1 / 64) a2
      · rfl
      · obtain ⟨j, j1, j2, rfl, _⟩ := inL_of (by have := hO.1; omega) hi
        exact absurd rfl (wi_ne hw2 j1 (by omega) (by omega))
    rw [h]
    simp only [Bool.false_eq_true, if_false, if_true, hno]
    cases inL (bp S.1 % 64) (nI i)
    · exact ⟨_, _, _, rfl, rfl, S, hS, hX, hM⟩
    · exact ⟨_, _, _, rfl, rfl, S, hS, hX, hM⟩
  obtain ⟨j, j1, j2, rfl⟩ := wi_of (by decide) hw2
  rw [inL_nI (by omega), inL_nI (by omega), decide_eq_true i1, decide_eq_true j1, Bool.true_and, Bool.true_and]
  have hcr := cr_lt (i := i) (j := j) (by omega) (by omega)
  have hsh : jshl (nI j) (nI 6) = nI (j * 64) := jshl_nI (p := j) (k := 6) (by decide) (by omega)
  have hdz : (nI (dif (i ||| j * 64) (bp S.1)) = nI 0) ↔ dif (i ||| j * 64) (bp S.1) = 0 := nI_z (by have := dif_lt (n := 12) (b := bp S.1) hcr; omega)
  simp only [if_true]
  unfold fX9_seen_b29
  rw [if_neg (show ¬ nI 1 = nI 0 by decide), hsh, nI_or, hM.1.1, nI_dif]
  simp only [hdz]
  by_cases hd : dif (i ||| j * 64) (bp S.1) = 0
  · obtain ⟨d1, d2⟩ := (cr_dif (by omega)).mp hd
    rw [if_pos hd, d1, d2]
    obtain ⟨⟨x1, x2, x3, x4, x5⟩, ⟨s1, s2, e, s3, s4, s5⟩, hp⟩ := hX
    obtain ⟨mk, ⟨g1, g2⟩, mp⟩ := hM
    simp only [decide_true, if_true]
    rw [s1, g1]
    by_cases h8 : bn S.1 = 8
    · rw [if_neg (by rw [h8]; decide), if_pos (by rw [h8])]
      exact ⟨_, _, _, rfl, rfl, S, hS, ⟨⟨x1, x2, x3, x4, x5⟩, ⟨s1, s2, e, s3, s4, s5⟩, hp⟩, mk, ⟨g1, g2⟩, mp⟩
    · have hn : bn S.1 < 8 := by have := hOS.1; omega
      rw [if_pos (nI_lt hn (by decide)), if_neg (fun z => h8 ((nI_eq (by omega) (by decide)).mp z))]
      obtain ⟨ev, hev⟩ : ∃ ev : Bool, a3 = nI ev.toNat := by
        rcases hz with rfl | rfl
        · exact ⟨false, rfl⟩
        · exact ⟨true, rfl⟩
      have hpw : 2 ^ bn S.1 < 256 := by
        have : 2 ^ bn S.1 < 2 ^ 8 := Nat.pow_lt_pow_right (by decide) hn
        simpa using this
      have hel : (dif e (2 ^ bn S.1) ||| if ev = true then 2 ^ bn S.1 else 0) < 256 := by
        have a1 : dif e (2 ^ bn S.1) < 2 ^ 8 := dif_lt (by simpa using s4)
        have := Nat.or_lt_two_pow (n := 8) (x := dif e (2 ^ bn S.1)) (y := if ev = true then 2 ^ bn S.1 else 0) a1 (by split <;> omega)
        simpa using this
      refine Rl_of (S := S) (S' := (sSeen S.1 (i ||| j * 64) ev, S.2)) (r := nI (bn S.1 + 1)) ⟨hO, ⟨by show bn S.1 + 1 ≤ 8; omega, fun q hq => ?_⟩, hS.2.2⟩
        ⟨sI (sI (sI Mx 5 (bn S.1) (nI (i ||| j * 64))) 1 3 (nI (dif e (2 ^ bn S.1) ||| if ev = true then 2 ^ bn S.1 else 0))) 1 2 (nI (bn S.1 + 1)), ?_, ?_, ?_, ?_⟩
        ⟨sI (sI (sI (sI M_ 4 (bn S.1) (nI i)) 5 (bn S.1) (nI j)) 6 (bn S.1) (nI ev.toNat)) 0 8 (nI (bn S.1 + 1)), ?_, ?_, ?_, ?_⟩
      · show un (bc S.1) (bn S.1) (i ||| j * 64) q < 4096
        have hq' : q < bn S.1 + 1 := hq
        unfold un
        split
        · exact hcr
        · exact hOS.2 q (by omega)
      · unfold fX0_addSight fX0_addSight_b38
        have s1' : Mx.1 1 2 = nI (bn S.1) := s1
        have s3' : Mx.1 1 3 = nI e := s3
        rw [s1', gd_of (inb_nI hn (by decide)), nI_clamp (by omega)]
        have q2 : ∀ v, (sI Mx (1 + 4) (bn S.1) v).1 1 2 = nI (bn S.1) := fun v => by rw [sI_n (by decide)]; exact s1'
        have q3 : ∀ v, (sI Mx (1 + 4) (bn S.1) v).1 1 3 = nI e := fun v => by rw [sI_n (by decide)]; exact s3'
        simp only [q2, q3, j2k (show bn S.1 < 31 by omega), nI_dif]
        rw [hev, ib0]
        cases ev
        · simp only [Bool.false_eq_true, if_false, bd_s]
          rw [nI_or, sI_s, sI_j _ (by decide), q2, nI_1']
        · simp only [if_true, bd_s]
          rw [nI_or, sI_s, sI_j _ (by decide), q2, nI_1']
      · refine ⟨?_, ?_, ?_, ?_, ?_⟩
        · rw [sI_j _ (by decide), sI_j _ (by decide), sI_n (by decide)]; exact x1
        · rw [sI_j _ (by decide), sI_j _ (by decide), sI_n (by decide)]; exact x2
        · intro k hk; rw [sI_n (by decide), sI_n (by decide), sI_n (by decide)]; exact x3 k hk
        · intro k hk; rw [sI_n (by decide), sI_n (by decide), sI_n (by decide)]; exact x4 k hk
        · intro k hk; rw [sI_n (by decide), sI_n (by decide), sI_n (by decide)]; exact x5 k hk
      · refine ⟨sI_s _ _ _ _, fun q hq => ?_, _, ?_, hel, fun q hq => ?_⟩
        · have hq' : q < bn S.1 + 1 := hq
          rw [sI_n (by decide), sI_n (by decide)]
          show (sI Mx 5 (bn S.1) (nI (i ||| j * 64))).1 5 q = nI (un (bc S.1) (bn S.1) (i ||| j * 64) q)
          rw [sI_g]
          unfold un
          by_cases e : q = bn S.1
          · rw [if_pos ⟨rfl, e⟩, if_pos e]
          · rw [if_neg (fun z => e z.2), if_neg e]; exact s2 q (by omega)
        · rw [sI_j _ (by decide), sI_s]
        · have hq' : q < bn S.1 + 1 := hq
          show _ = if q = bn S.1 then ev else be S.1 q
          rw [Nat.testBit_or, dif_bit, Nat.testBit_two_pow]
          by_cases e : q = bn S.1
          · subst e
            rw [if_pos rfl]
            cases ev
            · simp
            · simp
          · rw [if_neg e, s5 q (by omega), decide_eq_false (fun z => e z.symm)]
            cases ev
            · simp
            · simp [Nat.testBit_two_pow, Ne.symm e]
      · exact PX_fr (fun a ha => by rw [sI_n (by omega), sI_n (by omega), sI_n (by omega)]) hp
      · rw [gd_of (inb_nI hn (by decide)), nI_clamp (by omega)]
        have q2 : ∀ v, (sI M_ 4 (bn S.1) v).1 0 8 = nI (bn S.1) := fun v => by rw [sI_n (by decide)]; exact g1
        have q3 : ∀ v w, (sI (sI M_ 4 (bn S.1) v) 5 (bn S.1) w).1 0 8 = nI (bn S.1) := fun v w => by rw [sI_n (by decide), q2]
        have q4 : ∀ v w u, (sI (sI (sI M_ 4 (bn S.1) v) 5 (bn S.1) w) 6 (bn S.1) u).1 0 8 = nI (bn S.1) := fun v w u => by rw [sI_n (by decide), q3]
        unfold fX9_seen_b103
        simp only [q2, gd_of (inb_nI hn (by decide)), nI_clamp (show bn S.1 < 2 ^ 31 by omega), q3, q4, sI_s, nI_1']
        rw [hev, ib0]
        cases ev
        · rfl
        · rfl
      · refine MK_fr ?_ ?_ ?_ ?_ ?_ mk
        · rw [sI_j _ (by decide), sI_n (by decide), sI_n (by decide), sI_n (by decide)]
        · rw [sI_j _ (by decide), sI_n (by decide), sI_n (by decide), sI_n (by decide)]
        · rw [sI_n (by decide), sI_n (by decide), sI_n (by decide), sI_n (by decide)]
        · rw [sI_n (by decide), sI_n (by decide), sI_n (by decide), sI_n (by decide)]
        · rw [sI_n (by decide), sI_n (by decide), sI_n (by decide), sI_n (by decide)]
      · refine ⟨sI_s _ _ _ _, fun q hq => ?_⟩
        have hq' : q < bn S.1 + 1 := hq
        show _ = nI (un (bc S.1) (bn S.1) (i ||| j * 64) q % 64) ∧ _ = nI (un (bc S.1) (bn S.1) (i ||| j * 64) q / 64) ∧ _ = nI (if q = bn S.1 then ev else be S.1 q).toNat
        unfold un
        by_cases e : q = bn S.1
        · subst e
          rw [if_pos rfl, if_pos rfl, cr_mod (by omega), cr_div (by omega)]
          refine ⟨?_, ?_, ?_⟩
          · rw [sI_n (by decide), sI_n (by decide), sI_n (by decide), sI_s]
          · rw [sI_n (by decide), sI_n (by decide), sI_s]
          · rw [sI_n (by decide), sI_s]
        · rw [if_neg e, if_neg e]
          obtain ⟨t1, t2, t3⟩ := g2 q (by omega)
          refine ⟨?_, ?_, ?_⟩
          · rw [sI_n (by decide), sI_n (by decide), sI_n (by decide), sI_j _ e]; exact t1
          · rw [sI_n (by decide), sI_n (by decide), sI_j _ e, sI_n (by decide)]; exact t2
          · rw [sI_n (by decide), sI_j _ e, sI_n (by decide), sI_n (by decide)]; exact t3
      · refine PM_fr ?_ ?_ ?_ ?_ mp
        · rw [sI_j _ (by decide), sI_n (by decide), sI_n (by decide), sI_n (by decide)]
        · rw [sI_n (by decide), sI_n (by decide), sI_n (by decide), sI_n (by decide)]
        · rw [sI_n (by decide), sI_n (by decide), sI_n (by decide), sI_n (by decide)]
        · rw [sI_n (by decide), sI_n (by decide), sI_n (by decide), sI_n (by decide)]
  · rw [if_neg hd]
    have hnd : ¬ (dif i (bp S.1 % 64) = 0 ∧ dif j (bp S.1 / 64) = 0) := fun z => hd ((cr_dif (by omega)).mpr z)
    by_cases d1 : dif i (bp S.1 % 64) = 0
    · rw [decide_eq_true d1, decide_eq_false (fun z => hnd ⟨d1, z⟩)]
      exact ⟨_, _, _, rfl, rfl, S, hS, hX, hM⟩
    · rw [decide_eq_false d1]
      exact ⟨_, _, _, rfl, rfl, S, hS, hX, hM⟩
