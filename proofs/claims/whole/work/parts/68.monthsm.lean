/-! months, reference side -/
def JM (g : Gt) (M : Mm) : Prop := YM g.1 M ∧ M.1 0 19 = (if g.2.2 = 0 then mI 6 else nI g.2.1) ∧ M.1 0 20 = (if g.2.2 = 0 then mI 6 else nI g.2.2)
def FrJ (M M' : Mm) : Prop := (∀ a, ¬ a ≤ 2 → M'.1 a = M.1 a) ∧ ∀ j, j ≠ 1 → j ≠ 15 → j ≠ 16 → j ≠ 19 → j ≠ 20 → M'.1 0 j = M.1 0 j
theorem FrJ.trans {A B C : Mm} (h : FrJ A B) (g : FrJ B C) : FrJ A C := ⟨fun a ha => by rw [g.1 a ha, h.1 a ha], fun j h1 h2 h3 h4 h5 => by rw [g.2 j h1 h2 h3 h4 h5, h.2 j h1 h2 h3 h4 h5]⟩
theorem FrJ_M {M M' : Mm} (h : FrM M M') : FrJ M M' := ⟨h.1, fun j h1 h2 h3 _ _ => h.2 j h1 h2 h3⟩
theorem FrJ_0 (M : Mm) {j : Nat} (hj : j = 15 ∨ j = 16 ∨ j = 19 ∨ j = 20) (v : Int32) : FrJ M (sI M 0 j v) := ⟨fun a ha => sI_n (by omega), fun i h1 h2 h3 h4 h5 => sI_j _ (by omega)⟩
theorem FrJ.refl (M : Mm) : FrJ M M := ⟨fun _ _ => rfl, fun _ _ _ _ _ _ => rfl⟩
theorem YM_0 {y : Yt} {M : Mm} (h : YM y M) {j : Nat} (hj : 16 < j) (v : Int32) : YM y (sI M 0 j v) := ⟨MK_0 h.1 (by omega) v, by rw [sI_j _ (by omega)]; exact h.2.1, by rw [sI_j _ (by omega)]; exact h.2.2⟩
theorem why_a {y : Yt} {M : Mm} {a : Nat × Nat × Bool} (hY : YM y M) (hO : OK y.1) (hq : (a.1 = 4 ∧ a.2.1 < 4096) ∨ (a.1 < 4 ∧ a.2.1 < 12 ∧ a.2.2 = false)) : fX9_whyNot (nI a.1) (nI (if a.1 = 4 then a.2.1 else 2 ^ a.2.1)) (nI a.2.2.toNat) M = some (nI (aW y a), M) := by
  unfold aW
  rcases hq with h | h
  · rw [if_pos h.1, if_pos h.1, h.1]
    exact whyEx_m hY.1 hO h.2 a.2.2
  · have h4 : ¬ a.1 = 4 := by omega
    rw [if_neg h4, if_neg h4, h.2.2]
    exact whyNot_m hY.1 hO h.2.1 h.1
theorem happen_a {y : Yt} {M : Mm} {a : Nat × Nat × Bool} (hY : YM y M) (hO : OK y.1) (hq : (a.1 = 4 ∧ a.2.1 < 4096) ∨ (a.1 < 4 ∧ a.2.1 < 12 ∧ a.2.2 = false)) : ∃ M', fX9_happen (nI a.1) (nI (if a.1 = 4 then a.2.1 else 2 ^ a.2.1)) M = some ((), M') ∧ YM (aY y a) M' ∧ FrM M M' := by
  unfold aY
  rcases hq with h | h
  · obtain ⟨M1, e1, k1, f1, g1, g2⟩ := happen_e hY.1 hO h.2 hY.2.1
    rw [if_pos h.1, if_pos h.1, h.1, e1]
    exact ⟨M1, rfl, ⟨k1, g1, by rw [g2]; exact hY.2.2⟩, f1⟩
  · have h4 : ¬ a.1 = 4 := by omega
    obtain ⟨M1, e1, k1, f1, g1, g2⟩ := happen_d hY.1 hO h.2.1 h.1 hY.2.2
    rw [if_neg h4, if_neg h4, e1]
    exact ⟨M1, rfl, ⟨k1, by rw [g1]; exact hY.2.1, g2⟩, f1⟩
theorem goM_b {n : Nat} {Q : Qt} {b : Sb} (hn : n ≤ 60) (hO : OK b) (hQ : QW n Q) : ∀ f k M, k ≤ n → n < k + f → JM (aR Q b k) M → QA n Q M → M.1 0 14 = nI n → ∃ M', fX9_goMonths_b24 f (nI k) M = some ((), M') ∧ JM (aR Q b n) M' ∧ FrJ M M' := by
  intro f
  induction f with
  | zero => intro k M h1 h2; omega
  | succ f ih =>
    intro k M h1 h2 hJ hA h14
    rw [fX9_goMonths_b24, h14]
    by_cases hk : k = n
    · subst hk
      rw [if_pos (nI_le (Nat.le_refl _) (by omega))]
      exact ⟨M, rfl, hJ, FrJ.refl M⟩
    · rw [if_neg (nI_ge (by omega) (by omega))]
      by_cases h0 : (aR Q b k).2.2 = 0
      · have h19 : M.1 0 19 = mI 6 := by rw [hJ.2.1, if_pos h0]
        have hg := aR_acts Q b k h0
        have hOk := aR_OK hO hQ k h1
        have q := hA k (by omega)
        have hqk := hQ k (by omega)
        have hi : inb (nI k) 60 = true := inb_nI (by omega) (by decide)
        rw [h19, if_neg (by decide), gd_of hi, gd_of hi, gd_of hi, nI_clamp (by omega), q.1, q.2.1, q.2.2, why_a hJ.1 hOk hqk, bd_s]
        have hl := aW_lt (aR Q b k).1 (Q k)
        have e1 : nI (aW (aR Q b k).1 (Q k)) ≤ nI 0 ↔ aW (aR Q b k).1 (Q k) = 0 := by rw [nI_leI (by omega) (by decide)]; omega
        have e2 : nI (aW (aR Q b k).1 (Q k)) = nI 0 ↔ aW (aR Q b k).1 (Q k) = 0 := nI_z (by omega)
        unfold fX9_goMonths_b73 fX9_goMonths_b87
        have hs : aR Q b (k + 1) = aS (aR Q b k) (Q k) := rfl
        by_cases hw : aW (aR Q b k).1 (Q k) = 0
        · have e : aR Q b (k + 1) = (aY (aR Q b k).1 (Q k), (aR Q b k).2.1 + 1, 0) := by
            rw [hs]; unfold aS; rw [if_pos h0, if_pos hw]
          simp only [if_pos (e1.mpr hw), if_pos (e2.mpr hw)]
          have hY2 : YM (aR Q b k).1 (sI (sI M 0 19 (mI 6)) 0 20 (mI 6)) := YM_0 (YM_0 hJ.1 (by decide) _) (by decide) _
          obtain ⟨M1, m1, y1, f1⟩ := happen_a (a := Q k) hY2 hOk hqk
          rw [gd_of hi, gd_of hi, nI_clamp (by omega), sI_n (by decide), sI_n (by decide), sI_n (by decide), sI_n (by decide), q.1, q.2.1, m1, bd_s, nI_1']
          have ff : FrJ M M1 := ((FrJ_0 M (by decide) _).trans (FrJ_0 _ (by decide) _)).trans (FrJ_M f1)
          obtain ⟨M2, m2, j2, f2⟩ := ih (k + 1) M1 (by omega) (by omega) (by
            rw [e]
            refine ⟨y1, ?_, ?_⟩
            · rw [f1.2 19 (by decide) (by decide) (by decide), sI_j _ (by decide), sI_s]; rfl
            · rw [f1.2 20 (by decide) (by decide) (by decide), sI_s]; rfl) (fun j hj => by
              rw [ff.1 8 (by decide), ff.1 9 (by decide), ff.1 10 (by decide)]; exact hA j hj) (by rw [ff.2 14 (by decide) (by decide) (by decide) (by decide) (by decide)]; exact h14)
          exact ⟨M2, m2, j2, ff.trans f2⟩
        · have e : aR Q b (k + 1) = ((aR Q b k).1, (aR Q b k).2.1, aW (aR Q b k).1 (Q k)) := by
            rw [hs]; unfold aS; rw [if_pos h0, if_neg hw]
          simp only [if_neg (fun z => hw (e1.mp z)), if_neg (fun z => hw (e2.mp z))]
          rw [nI_1']
          have ff : FrJ M (sI (sI M 0 19 (nI k)) 0 20 (nI (aW (aR Q b k).1 (Q k)))) := (FrJ_0 M (by decide) _).trans (FrJ_0 _ (by decide) _)
          obtain ⟨M2, m2, j2, f2⟩ := ih (k + 1) (sI (sI M 0 19 (nI k)) 0 20 (nI (aW (aR Q b k).1 (Q k)))) (by omega) (by omega) (by
            rw [e]
            refine ⟨YM_0 (YM_0 hJ.1 (by decide) _) (by decide) _, ?_, ?_⟩
            · rw [sI_j _ (by decide), sI_s, if_neg hw, hg]
            · rw [sI_s, if_neg hw]) (fun j hj => by
              rw [ff.1 8 (by decide), ff.1 9 (by decide), ff.1 10 (by decide)]; exact hA j hj) (by rw [ff.2 14 (by decide) (by decide) (by decide) (by decide) (by decide)]; exact h14)
          exact ⟨M2, m2, j2, ff.trans f2⟩
      · have h19 : M.1 0 19 = nI (aR Q b k).2.1 := by rw [hJ.2.1, if_neg h0]
        have := aR_le Q b k
        rw [h19, if_pos (nI_le (Nat.zero_le _) (by omega))]
        refine ⟨M, rfl, ?_, FrJ.refl M⟩
        have := aR_stop h0 (n - k)
        rw [show k + (n - k) = n by omega] at this
        rw [this]; exact hJ
theorem goM_m {n : Nat} {Q : Qt} {b : Sb} {M : Mm} (hn : n ≤ 60) (hO : OK b) (hQ : QW n Q) (hM : MK b M) (hA : QA n Q M) (h14 : M.1 0 14 = nI n) : ∃ M', fX9_goMonths M = some ((), M') ∧ JM (aR Q b n) M' ∧ FrJ M M' := by
  unfold fX9_goMonths
  have ff : FrJ M (sI (sI (sI (sI M 0 19 (mI 6)) 0 20 (mI 6)) 0 15 (nI 0)) 0 16 (nI 0)) := (((FrJ_0 M (by decide) _).trans (FrJ_0 _ (by decide) _)).trans (FrJ_0 _ (by decide) _)).trans (FrJ_0 _ (by decide) _)
  obtain ⟨M1, m1, j1, f1⟩ := goM_b hn hO hQ fu 0 (sI (sI (sI (sI M 0 19 (mI 6)) 0 20 (mI 6)) 0 15 (nI 0)) 0 16 (nI 0)) (by omega) (by have : fu = 5000 := rfl; omega) (by
    refine ⟨⟨MK_0 (MK_0 (MK_0 (MK_0 hM (by decide) _) (by decide) _) (by decide) _) (by decide) _, ?_, ?_⟩, ?_, ?_⟩
    · rw [sI_j _ (by decide), sI_s]; rfl
    · rw [sI_s]; rfl
    · rw [sI_j _ (by decide), sI_j _ (by decide), sI_j _ (by decide), sI_s]; rfl
    · rw [sI_j _ (by decide), sI_j _ (by decide), sI_s]; rfl) (fun j hj => by
      rw [ff.1 8 (by decide), ff.1 9 (by decide), ff.1 10 (by decide)]; exact hA j hj) (by rw [ff.2 14 (by decide) (by decide) (by decide) (by decide) (by decide)]; exact h14)
  exact ⟨M1, m1, j1, ff.trans f1⟩
theorem pG_cases {c : Nat → Nat} : ∀ r i p, (pG c r i p).1 = mI 6 ∨ ∃ j, j ≤ i + r ∧ (pG c r i p).1 = nI j := by
  intro r
  induction r with
  | zero =>
    intro i p
    rw [pG]
    by_cases h : p.1 = 0
    · exact Or.inl (if_pos h)
    · exact Or.inr ⟨i, by omega, if_neg h⟩
  | succ r ih =>
    intro i p
    rw [pG]
    split
    · exact Or.inr ⟨i, by omega, rfl⟩
    · rcases ih (i + 1) (pT p (c i)) with h | ⟨j, h1, h2⟩
      · exact Or.inl h
      · exact Or.inr ⟨j, by omega, h2⟩
def RF (S : Sa) (M : Mm) : Prop := M.1 0 19 = (if (gF S).2.2 = 0 then mI 6 else nI (gF S).2.1) ∧ M.1 0 20 = (if (gF S).2.2 = 0 then mI 6 else nI (gF S).2.2) ∧ M.1 0 15 = nI (gF S).1.2.1 ∧ HK 12 (gF S).1.1 M ∧ M.1 0 21 = iI (sOp (gF S).1.1 0 6) ∧ M.1 0 22 = iI (sOp (gF S).1.1 6 6) ∧ M.1 0 14 = nI (pF S).2.2.1 ∧ QA (pF S).2.2.1 (pF S).2.2.2.2.2 M ∧ (pF S).2.2.1 ≤ 60
theorem aR_bp (Q : Qt) (b : Sb) (n : Nat) : bp (aR Q b n).1.1 = bp b ∧ bw (aR Q b n).1.1 = bw b := by
  induction n with
  | zero => exact ⟨rfl, rfl⟩
  | succ n ih =>
    rw [aR]; unfold aS
    split
    · split
      · show bp (aY _ _).1 = _ ∧ bw (aY _ _).1 = _
        have h : ∀ y a, bp (aY y a).1 = bp y.1 ∧ bw (aY y a).1 = bw y.1 := by
          intro y a
          unfold aY
          split
          · exact ⟨rfl, rfl⟩
          · show bp (doD y.1 a.1 a.2.1) = _ ∧ bw (doD y.1 a.1 a.2.1) = _
            unfold doD
            repeat' split
            all_goals exact ⟨rfl, rfl⟩
        rw [(h _ _).1, (h _ _).2]
        exact ih
      · exact ih
    · exact ih
theorem refusal_m {S : Sa} {M : Mm} (hS : XO S) (hM : RM S M) : ∃ M', fX9_refusal M = some (if (pF S).1 = mI 6 then (if (gF S).2.2 = 0 then mI 6 else mI 3) else mI 5, M') ∧ RM S M' ∧ ((pF S).1 = mI 6 → RF S M') := by
  unfold fX9_refusal
  obtain ⟨M1, e1, r1, q1⟩ := fault_m hS hM
  have hO := hS.1
  rw [e1, bd_s]
  by_cases hF : (pF S).1 = mI 6
  · obtain ⟨pq, pw, p60⟩ := q1 hF
    rw [if_pos hF, hF, if_pos (by decide)]
    obtain ⟨M2, e2, h2, f2⟩ := store_m (c := 11) (by decide) r1.1
    have k2 : MK S.1 M2 := MK_fr (by rw [f2 0 (by decide)]) (by rw [f2 0 (by decide)]) (f2 1 (by decide)) (f2 2 (by decide)) (f2 3 (by decide)) r1.1
    obtain ⟨M3, e3, j3, f3⟩ := goM_m (n := (pF S).2.2.1) (Q := (pF S).2.2.2.2.2) (b := S.1) (M := M2) p60 hO pw.1 k2 (fun j hj => by rw [f2 8 (by decide), f2 9 (by decide), f2 10 (by decide)]; exact pq.2.1 j hj) (by rw [f2 0 (by decide)]; exact pq.1)
    have hOg := gF_OK (S := S) hO
    have j3 : JM (gF S) M3 := j3
    obtain ⟨M4, e4, h4, f4⟩ := store_m (c := 12) (by decide) j3.1.1
    have fr0 : ∀ {A B : Mm}, MK (gF S).1.1 A → (∀ a, a ≤ 3 → B.1 a = A.1 a) → MK (gF S).1.1 B := fun h g => MK_fr (by rw [g 0 (by decide)]) (by rw [g 0 (by decide)]) (g 1 (by decide)) (g 2 (by decide)) (g 3 (by decide)) h
    have k4 : MK (gF S).1.1 M4 := fr0 j3.1.1 (fun a ha => f4 a (by omega))
    have s4 := sumOpen_0 k4 hOg
    have k5 : MK (gF S).1.1 (sI M4 0 21 (iI (sOp (gF S).1.1 0 6))) := MK_0 k4 (by decide) _
    have s5 := sumOpen_6 k5 hOg
    have w : ∀ a, ¬ a ≤ 2 → a ≠ 11 → a ≠ 12 → M4.1 a = M1.1 a := fun a h1 h2 h3 => by rw [f4 a h3, f3.1 a h1, f2 a h2]
    have w0 : ∀ j, j ≠ 1 → j ≠ 15 → j ≠ 16 → j ≠ 19 → j ≠ 20 → M4.1 0 j = M1.1 0 j := fun j h1 h2 h3 h4 h5 => by rw [f4 0 (by decide), f3.2 j h1 h2 h3 h4 h5, f2 0 (by decide)]
    obtain ⟨M6, e6, k6, f6, g6⟩ := lay_m (c := 11) (b := S.1) (M := sI (sI M4 0 21 (iI (sOp (gF S).1.1 0 6))) 0 22 (iI (sOp (gF S).1.1 6 6))) (by decide) (by
      unfold HK
      rw [sI_n (by decide), sI_n (by decide), f4 11 (by decide), f3.1 11 (by decide)]; exact h2) (by rw [sI_j _ (by decide), sI_j _ (by decide), w0 0 (by decide) (by decide) (by decide) (by decide) (by decide)]; exact r1.1.1) (fun j hj => by rw [sI_n (by decide), sI_n (by decide), w 3 (by decide) (by decide) (by decide)]; exact r1.1.2.2.2.2 j hj)
    have v0 : ∀ j, j ≠ 1 → j ≠ 21 → j ≠ 22 → M6.1 0 j = M3.1 0 j := fun j h1 h2 h3 => by rw [g6 j h1, sI_j _ h3, sI_j _ h2, f4 0 (by decide)]
    have va : ∀ a, ¬ a ≤ 2 → a ≠ 11 → a ≠ 12 → M6.1 a = M1.1 a := fun a h1 h2 h3 => by rw [f6 a h1, sI_n (by omega), sI_n (by omega), w a h1 h2 h3]
    have u0 : ∀ j, j ≠ 1 → j ≠ 21 → j ≠ 22 → j ≠ 15 → j ≠ 16 → j ≠ 19 → j ≠ 20 → M6.1 0 j = M1.1 0 j := fun j h1 h2 h3 h4 h5 h6 h7 => by rw [g6 j h1, sI_j _ h3, sI_j _ h2, w0 j h1 h4 h5 h6 h7]
    rw [e2, bd_s, e3, bd_s, e4, bd_s, s4, bd_s, s5, bd_s, e6, bd_s, v0 19 (by decide) (by decide) (by decide), j3.2.1]
    have hle : (gF S).2.1 ≤ (pF S).2.2.1 := aR_le _ _ _
    refine ⟨M6, ?_, RM_hk r1 k6 (fun j hj => u0 j (by omega) (by omega) (by omega) (by omega) (by omega) (by omega) (by omega)) (fun a ha => va a (by omega) (by omega) (by omega)), fun _ => ⟨?_, ?_, ?_, ?_, ?_, ?_, ?_, ?_, p60⟩⟩
    · by_cases h0 : (gF S).2.2 = 0
      · simp only [if_pos h0]; rw [if_pos (by decide)]
      · simp only [if_neg h0]; rw [if_neg (nI_nlt (Nat.zero_le _) (by omega))]
    · rw [v0 19 (by decide) (by decide) (by decide)]; exact j3.2.1
    · rw [v0 20 (by decide) (by decide) (by decide)]; exact j3.2.2
    · rw [v0 15 (by decide) (by decide) (by decide)]; exact j3.1.2.1
    · unfold HK
      rw [f6 12 (by decide), sI_n (by decide), sI_n (by decide)]; exact h4
    · rw [g6 21 (by decide), sI_j _ (by decide), sI_s]
    · rw [g6 22 (by decide), sI_s]
    · rw [u0 14 (by decide) (by decide) (by decide) (by decide) (by decide) (by decide) (by decide)]; exact pq.1
    · intro j hj
      rw [va 8 (by decide) (by decide) (by decide), va 9 (by decide) (by decide) (by decide), va 10 (by decide) (by decide) (by decide)]; exact pq.2.1 j hj
  · rw [if_neg hF]
    rcases pG_cases S.2.1.1 0 p0 (c := S.2.1.2) with h | ⟨j, h1, h2⟩
    · exact absurd h hF
    · have h60 := hS.2.2.1
      rw [show (pF S).1 = nI j from h2, if_neg (nI_nlt (Nat.zero_le _) (by omega))]
      exact ⟨M1, rfl, r1, fun h => absurd (h2.trans h) (fun z => hF (h2.symm ▸ (h2.trans h)))⟩
theorem op_judge : Op_judge Rl := by
  intro x Mx M_ ⟨S, hS, hX, hM⟩
  unfold fX8_judge fX9_judge fX9_judge_b39 fX3_failedAct fX3_failedWhy
  rw [isWithin_nI x (a := 0) (b := 2) (by decide) (by decide), bd_s, in_nI x (a := 0) (b := 2) (by decide) (by decide), bd_s, ib0, ib0]
  cases hw : wi x 0 2
  · exact ⟨_, _, _, rfl, rfl, S, hS, hX, hM⟩
  obtain ⟨v, _, hv, rfl⟩ := wi_of (by decide) hw
  obtain ⟨M1, e1, r1, b1⟩ := readM_x hS hX
  obtain ⟨M2, e2, r2, b2⟩ := refusal_m hS hM
  simp only [if_true]
  rw [e1, bd_s, e2, bd_s]
  by_cases hF : (pF S).1 = mI 6
  · have b1 := b1 hF
    have b2 := b2 hF
    have ew : nI (gF S).2.2 = nI 0 ↔ (gF S).2.2 = 0 := nI_z (by have : (gF S).2.2 < 7 := aR_why _ _ _; omega)
    have d1 : ¬ nI 0 = mI 5 := by decide
    have d2 : ¬ mI 3 = mI 5 := by decide
    have d3 : ¬ mI 6 = mI 5 := by decide
    have d4 : ¬ nI 0 = mI 3 := by decide
    have d5 : ¬ mI 6 = mI 3 := by decide
    simp only [if_pos hF]
    rw [b1.2.2.1, b1.2.2.2.1, b1.2.2.2.2, b2.1, b2.2.1, b2.2.2.1]
    by_cases h0 : (gF S).2.2 = 0
    · simp only [if_pos h0, if_pos (ew.mpr h0), if_neg d1, if_neg d3, if_neg d4, if_neg d5, bd_s]
      match v, hv with
      | 0, _ => exact ⟨_, _, _, rfl, rfl, S, hS, r1, r2⟩
      | 1, _ => exact ⟨_, _, _, rfl, rfl, S, hS, r1, r2⟩
      | 2, _ => exact ⟨_, _, _, rfl, rfl, S, hS, r1, r2⟩
    · simp only [if_neg h0, if_neg (fun z => h0 (ew.mp z)), if_neg d2, if_true, bd_s]
      match v, hv with
      | 0, _ => exact ⟨_, _, _, rfl, rfl, S, hS, r1, r2⟩
      | 1, _ => exact ⟨_, _, _, rfl, rfl, S, hS, r1, r2⟩
      | 2, _ => exact ⟨_, _, _, rfl, rfl, S, hS, r1, r2⟩
  · simp only [if_neg hF, if_true]
    exact ⟨_, _, _, rfl, rfl, S, hS, r1, r2⟩
theorem op_behind : Op_behind Rl := by
  intro x1 x2 Mx M_ ⟨S, hS, hX, hM⟩
  have hO := hS.1
  unfold fX8_behind fX9_behind
  rw [isThere_x hX.1 hO, bd_s, isOfficer_x hM.1 hO, bd_s, isWithin_nI x2 (a := 0) (b := 1) (by decide) (by decide), bd_s, in_nI x2 (a := 0) (b := 1) (by decide) (by decide), bd_s, ib0, ib0, ib0, ib0]
  cases ht : (wi x1 0 11 && th S.1 x1.toNatClampNeg)
  · exact ⟨_, _, _, rfl, rfl, S, hS, hX, hM⟩
  rw [Bool.and_eq_true] at ht
  obtain ⟨k, _, hk, rfl⟩ := wi_of (by decide) ht.1
  have hk' : k < 12 := by omega
  cases hw : wi x2 0 1
  · exact ⟨_, _, _, rfl, rfl, S, hS, hX, hM⟩
  obtain ⟨v, _, hv, rfl⟩ := wi_of (by decide) hw
  obtain ⟨M1, e1, r1, b1⟩ := readM_x hS hX
  obtain ⟨M2, e2, r2, b2⟩ := refusal_m hS hM
  simp only [if_true]
  rw [e1, bd_s, e2, bd_s, gd_of (inb_nI hk' (by decide)), gd_of (inb_nI hk' (by decide)), pk_mul, nI_add, gd_of (inb_nI (by omega) (by decide)), nI_clamp (by omega), nI_clamp (by omega)]
  by_cases hF : (pF S).1 = mI 6
  · have b1 := b1 hF
    have b2 := b2 hF
    simp only [if_pos hF]
    by_cases h0 : (gF S).2.2 = 0
    · simp only [if_pos h0, if_true]
      have z1 : M1.1 11 k = nI (bz (gF S).1.1 k) := b1.1.2.2.2.1 k hk'
      have z2 : M1.1 10 k = nI (br (gF S).1.1 k) := b1.1.2.2.1 k hk'
      have y1 := b2.2.2.2.1.1 k hk'
      rw [z1, z2]
      match v, hv with
      | 0, _ =>
        rw [if_pos rfl, show 12 * 0 + k = k by omega, y1.1]
        exact ⟨_, _, _, rfl, rfl, S, hS, r1, r2⟩
      | 1, _ =>
        rw [if_neg (by decide), show 12 * 1 + k = 12 + k by omega, y1.2]
        exact ⟨_, _, _, rfl, rfl, S, hS, r1, r2⟩
    · simp only [if_neg h0]
      rw [if_neg (by decide), if_neg (by decide)]
      exact ⟨_, _, _, rfl, rfl, S, hS, r1, r2⟩
  · simp only [if_neg hF]
    rw [if_neg (by decide), if_neg (by decide)]
    exact ⟨_, _, _, rfl, rfl, S, hS, r1, r2⟩
theorem bit63 : ∀ k, k < 12 → (63 : Nat).testBit k = decide (k < 6) := by decide
theorem bit4032 : ∀ k, k < 12 → (4032 : Nat).testBit k = decide (6 ≤ k) := by decide
theorem ld_ours (b : Sb) : ld b (fun k => (bs (op b) 12 &&& 63).testBit k && th b k) = sOp b 0 6 := by
  rw [ld_congr (T := fun k => op b k && decide (k < 6))]
  · simp [ld, sOp, sm, sgn]
  · intro k hk
    rw [Nat.testBit_and, bs_bit, bit63 k hk, decide_eq_true hk, Bool.true_and, Bool.and_right_comm, op_th]
theorem ld_theirs (b : Sb) : ld b (fun k => (bs (op b) 12 &&& 4032).testBit k && th b k) = - sOp b 6 6 := by
  rw [ld_congr (T := fun k => op b k && decide (6 ≤ k))]
  · simp [ld, sOp, sm, sgn, neg_ite]
    omega
  · intro k hk
    rw [Nat.testBit_and, bs_bit, bit4032 k hk, decide_eq_true hk, Bool.true_and, Bool.and_right_comm, op_th]
theorem sm_nn {g : Nat → Int} {n : Nat} (h : ∀ k, k < n → 0 ≤ g k) : 0 ≤ sm g n := by
  induction n with
  | zero => simp [sm]
  | succ n ih =>
    rw [sm]
    have h1 := ih (fun k hk => h k (by omega))
    have h2 := h n (by omega)
    omega
theorem sOp_nn (b : Sb) (a : Nat) : 0 ≤ sOp b a 6 := sm_nn (fun k _ => by
  show 0 ≤ (if op b (a + k) = true then (wk b (a + k) : Int) else 0)
  split <;> omega)
theorem jabs_p {a : Int} (h0 : 0 ≤ a) (h1 : a ≤ 1000) : jabs (iI a) = iI a := by
  unfold jabs
  rw [if_pos (by rw [Int32.le_iff_toInt_le, iI_toInt (by omega) (by omega)]; simpa using h0)]
theorem jabs_n {a : Int} (h0 : 0 ≤ a) (h1 : a ≤ 1000) : jabs (iI (-a)) = iI a := by
  by_cases h : a = 0
  · subst h; rfl
  · unfold jabs
    rw [if_neg (by rw [Int32.le_iff_toInt_le, iI_toInt (by omega) (by omega)]; simp; omega), Int32.sub_eq_add_neg, iI_neg, show (0 : Int32) = iI 0 from rfl, iI_add]
    congr 1
    omega
theorem op_ledger : Op_ledger Rl := by
  intro x Mx M_ ⟨S, hS, hX, hM⟩
  have hO := hS.1
  unfold fX8_ledger fX9_ledger fX8_ledger_b51
  rw [isWithin_nI x (a := 0) (b := 2) (by decide) (by decide), bd_s, in_nI x (a := 0) (b := 2) (by decide) (by decide), bd_s, ib0, ib0]
  cases hw : wi x 0 2
  · exact ⟨_, _, _, rfl, rfl, S, hS, hX, hM⟩
  obtain ⟨v, _, hv, rfl⟩ := wi_of (by decide) hw
  obtain ⟨M1, e1, r1, b1⟩ := readM_x hS hX
  obtain ⟨M2, e2, r2, b2⟩ := refusal_m hS hM
  simp only [if_true]
  rw [e1, bd_s, e2, bd_s]
  by_cases hF : (pF S).1 = mI 6
  · have b1 := b1 hF
    have b2 := b2 hF
    simp only [if_pos hF]
    by_cases h0 : (gF S).2.2 = 0
    · simp only [if_pos h0, if_true]
      have hOg := gF_OK (S := S) hO
      have t1 : M1.1 9 1 = nI (bt (gF S).1.1) := b1.1.2.1
      have s1 := sOp_bd hOg 0 (by omega)
      have s2 := sOp_bd hOg 6 (by omega)
      have n1 := sOp_nn (gF S).1.1 0
      have n2 := sOp_nn (gF S).1.1 6
      rw [crowd7 b1.1 hOg, bd_s, bd_s, nI_and, nI_and, lead_s b1.1 hOg, bd_s, lead_s b1.1 hOg, bd_s, ld_ours, ld_theirs, jabs_p n1 (by omega), jabs_n n2 (by omega), t1, show (nI 24).toNatClampNeg = 24 by decide, b2.2.2.2.1.2, b2.2.2.2.2.1, b2.2.2.2.2.2.1]
      match v, hv with
      | 0, _ => exact ⟨_, _, _, rfl, rfl, S, hS, r1, r2⟩
      | 1, _ => exact ⟨_, _, _, rfl, rfl, S, hS, r1, r2⟩
      | 2, _ => exact ⟨_, _, _, rfl, rfl, S, hS, r1, r2⟩
    · simp only [if_neg h0]
      rw [if_neg (by decide), if_neg (by decide)]
      exact ⟨_, _, _, rfl, rfl, S, hS, r1, r2⟩
  · simp only [if_neg hF]
    rw [if_neg (by decide), if_neg (by decide)]
    exact ⟨_, _, _, rfl, rfl, S, hS, r1, r2⟩
theorem op_done : Op_done Rl := by
  intro Mx M_ ⟨S, hS, hX, hM⟩
  have hO := hS.1
  unfold fX8_done fX9_done
  obtain ⟨M1, e1, r1, b1⟩ := readM_x hS hX
  obtain ⟨M2, e2, r2, b2⟩ := refusal_m hS hM
  rw [e1, bd_s, e2, bd_s]
  by_cases hF : (pF S).1 = mI 6
  · have b1 := b1 hF
    have b2 := b2 hF
    simp only [if_pos hF]
    by_cases h0 : (gF S).2.2 = 0
    · simp only [if_pos h0, if_true]
      have hOg := gF_OK (S := S) hO
      have g2 : (gF S).1.1.2 = S.1.2 := aR_2 _ _ _
      have hn : bn (gF S).1.1 = bn S.1 := by unfold bn; rw [g2]
      have xs : XS 9 (gF S).1.1 M1 := by
        have := b1.2.1
        unfold XS bn bc be at this ⊢
        rw [g2]; exact this
      obtain ⟨M3, e3, k3, s3, f3⟩ := copy_k (c := 1) (d := 9) (by decide) b1.1 xs (by rw [hn]; exact hS.2.1.1)
      obtain ⟨M4, e4, j4, f4⟩ := goM_m (n := (pF S).2.2.1) (Q := (pF S).2.2.2.2.2) (b := S.1) b2.2.2.2.2.2.2.2.2 hO (pF_PW S).1 r2.1 b2.2.2.2.2.2.2.2.1 b2.2.2.2.2.2.2.1
      have j4 : JM (gF S) M4 := j4
      have hac : (gF S).2.1 = (pF S).2.2.1 := aR_acts _ _ _ h0
      rw [e3, bd_s, e4, bd_s, sI_n (by decide), sI_j _ (by decide), f3 8 (by decide), b1.2.2.1, f4.2 14 (by decide) (by decide) (by decide) (by decide) (by decide), b2.2.2.2.2.2.2.1, hac]
      refine ⟨_, _, _, rfl, rfl, ((gF S).1.1, (0, S.2.1.2), S.2.2), ⟨hOg, ?_, by show (0 : Nat) ≤ 60; decide, fun i hi => absurd hi (Nat.not_lt_zero i), hS.2.2.2.2⟩, ?_, ?_⟩
      · have := hS.2.1
        unfold OS bn bc at this ⊢
        show (gF S).1.1.2.1 ≤ 8 ∧ ∀ i, i < (gF S).1.1.2.1 → (gF S).1.1.2.2.1 i < 4096
        rw [g2]; exact this
      · obtain ⟨p1, p2, p3⟩ := r1.2.2
        refine ⟨XK_fr (fun a h1 h2 => sI_n (by omega)) k3, XS_fr (sI_n (by decide)) (sI_n (by decide)) s3, sI_s _ _ _ _, fun i hi => absurd hi (Nat.not_lt_zero i), fun k hk => ⟨by rw [sI_n (by decide), f3 44 (by decide)]; exact (p3 k hk).1, fun b hb => ?_⟩⟩
        exact ⟨XK_fr (fun a h1 h2 => by rw [sI_n (by omega), f3 a (by omega)]) ((p3 k hk).2 b hb).1, XS_fr (by rw [sI_n (by omega), f3 _ (by omega)]) (by rw [sI_n (by omega), f3 _ (by omega)]) ((p3 k hk).2 b hb).2⟩
      · obtain ⟨m1, m2, p1, p2, p3⟩ := r2
        have w : ∀ a, ¬ a ≤ 2 → (sI M4 0 10 (nI 0)).1 a = M2.1 a := fun a ha => by rw [sI_n (by omega), f4.1 a ha]
        refine ⟨MK_0 j4.1.1 (by decide) _, ?_, sI_s _ _ _ _, fun i hi => absurd hi (Nat.not_lt_zero i), fun k hk => ⟨by rw [w 17 (by decide)]; exact (p3 k hk).1, fun b hb => KI_fr (w 16 (by decide)) ((p3 k hk).2 b hb)⟩⟩
        have mg := MG_fr (M' := sI M4 0 10 (nI 0)) (by rw [sI_j _ (by decide), f4.2 8 (by decide) (by decide) (by decide) (by decide) (by decide)]) (w 4 (by decide)) (w 5 (by decide)) (w 6 (by decide)) m2
        unfold MG bn bc be at mg ⊢
        show (sI M4 0 10 (nI 0)).1 0 8 = nI (gF S).1.1.2.1 ∧ ∀ i, i < (gF S).1.1.2.1 → (sI M4 0 10 (nI 0)).1 4 i = nI ((gF S).1.1.2.2.1 i % 64) ∧ (sI M4 0 10 (nI 0)).1 5 i = nI ((gF S).1.1.2.2.1 i / 64) ∧ (sI M4 0 10 (nI 0)).1 6 i = nI ((gF S).1.1.2.2.2 i).toNat
        rw [g2]; exact mg
    · simp only [if_neg h0]
      rw [if_neg (by decide), if_neg (by decide)]
      exact ⟨_, _, _, rfl, rfl, S, hS, r1, r2⟩
  · simp only [if_neg hF]
    rw [if_neg (by decide), if_neg (by decide)]
    exact ⟨_, _, _, rfl, rfl, S, hS, r1, r2⟩
