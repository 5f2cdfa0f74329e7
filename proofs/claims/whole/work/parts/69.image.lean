/-! images -/
def loc (t : Nat) : Nat × Nat := if t = 0 then (0, 0) else if t = 1 then (0, 1) else if t = 2 then (0, 8) else if t < 27 then (1 + (t - 3) % 2, (t - 3) / 2) else if t < 33 then (3, t - 27) else (4 + (t - 33) % 3, (t - 33) / 3)
theorem loc_1 : ∀ k, k < 12 → loc (3 + 2 * k) = (1, k) ∧ loc (4 + 2 * k) = (2, k) := by decide
theorem loc_2 : ∀ k, k < 6 → loc (27 + k) = (3, k) := by decide
theorem loc_3 : ∀ k, k < 8 → loc (33 + 3 * k) = (4, k) ∧ loc (34 + 3 * k) = (5, k) ∧ loc (35 + 3 * k) = (6, k) := by decide
theorem loc_inj : ∀ t, t < 57 → ∀ j, j < t → loc j ≠ loc t := by decide +kernel
theorem loc_r : ∀ t, t < 57 → (loc t).1 ≤ 6 ∧ ((loc t).1 = 0 → (loc t).2 ≤ 8) := by decide
theorem sI_self {N : Mm} {c k : Nat} {v : Int32} (h : N.1 c k = v) : sI N c k v = N := by
  unfold sI
  apply Prod.ext
  · funext a b
    show (if a = c ∧ b = k then v else N.1 a b) = N.1 a b
    split
    · rename_i h2
      rw [h2.1, h2.2, h]
    · rfl
  · rfl
def PStep (P : Nat → Mm → Prop) : Prop := ∀ t M, t < 57 → P t M → ∃ M', (∀ f : Mm → Option (Unit × Mm), bd (fX9_pass (M.1 (loc t).1 (loc t).2) M) (fun r M1 => f (sI M1 (loc t).1 (loc t).2 r)) = f M') ∧ P (t + 1) M'
theorem step_at {P : Nat → Mm → Prop} (hP : PStep P) {t c k : Nat} (ht : t < 57) (hl : loc t = (c, k)) {M : Mm} (h : P t M) : ∃ M', (∀ f : Mm → Option (Unit × Mm), bd (fX9_pass (M.1 c k) M) (fun r M1 => f (sI M1 c k r)) = f M') ∧ P (t + 1) M' := by
  have := hP t M ht h
  rw [hl] at this
  exact this
theorem pall_114 {P : Nat → Mm → Prop} (hP : PStep P) : ∀ n k M, k ≤ 8 → 8 < k + n → P (33 + 3 * k) M → ∃ M', fX9_passAll_b114 n (nI k) M = some ((), M') ∧ P 57 M' := by
  intro n
  induction n with
  | zero => intro k M h1 h2; omega
  | succ n ih =>
    intro k M h1 h2 h
    rw [fX9_passAll_b114]
    by_cases hk : k = 8
    · subst hk
      rw [if_pos (by decide)]
      exact ⟨M, rfl, h⟩
    · have hk' : k < 8 := by omega
      have hi : inb (nI k) 8 = true := inb_nI hk' (by decide)
      have hc : (nI k).toNatClampNeg = k := nI_clamp (by omega)
      rw [if_neg (nI_ge hk' (by decide))]
      simp only [gd_of hi, hc, nI_1']
      obtain ⟨M1, e1, p1⟩ := step_at hP (t := 33 + 3 * k) (c := 4) (k := k) (by omega) (loc_3 k hk').1 h
      obtain ⟨M2, e2, p2⟩ := step_at hP (t := 33 + 3 * k + 1) (c := 5) (k := k) (by omega) (by rw [show 33 + 3 * k + 1 = 34 + 3 * k by omega]; exact (loc_3 k hk').2.1) p1
      obtain ⟨M3, e3, p3⟩ := step_at hP (t := 33 + 3 * k + 1 + 1) (c := 6) (k := k) (by omega) (by rw [show 33 + 3 * k + 1 + 1 = 35 + 3 * k by omega]; exact (loc_3 k hk').2.2) p2
      obtain ⟨M4, e4, p4⟩ := ih (k + 1) M3 (by omega) (by omega) (by rw [show 33 + 3 * (k + 1) = 33 + 3 * k + 1 + 1 + 1 by omega]; exact p3)
      refine ⟨M4, ?_, p4⟩
      refine Eq.trans (e1 (fun N => bd (fX9_pass (N.1 5 k) N) fun r6 M6 => bd (fX9_pass ((sI M6 5 k r6).1 6 k) (sI M6 5 k r6)) fun r9 M9 => fX9_passAll_b114 n (nI (k + 1)) (sI M9 6 k r9))) ?_
      refine Eq.trans (e2 (fun N => bd (fX9_pass (N.1 6 k) N) fun r9 M9 => fX9_passAll_b114 n (nI (k + 1)) (sI M9 6 k r9))) ?_
      exact Eq.trans (e3 (fun N => fX9_passAll_b114 n (nI (k + 1)) N)) e4
theorem pall_84 {P : Nat → Mm → Prop} (hP : PStep P) : ∀ n k M, k ≤ 6 → 6 < k + n → P (27 + k) M → ∃ M', fX9_passAll_b84 n (nI k) M = some ((), M') ∧ P 57 M' := by
  intro n
  induction n with
  | zero => intro k M h1 h2; omega
  | succ n ih =>
    intro k M h1 h2 h
    rw [fX9_passAll_b84]
    by_cases hk : k = 6
    · subst hk
      rw [if_pos (by decide)]
      exact pall_114 hP fu 0 M (by omega) (by decide) h
    · have hk' : k < 6 := by omega
      have hi : inb (nI k) 6 = true := inb_nI hk' (by decide)
      have hc : (nI k).toNatClampNeg = k := nI_clamp (by omega)
      rw [if_neg (nI_ge hk' (by decide))]
      simp only [gd_of hi, hc, nI_1']
      obtain ⟨M1, e1, p1⟩ := step_at hP (t := 27 + k) (c := 3) (k := k) (by omega) (loc_2 k hk') h
      obtain ⟨M4, e4, p4⟩ := ih (k + 1) M1 (by omega) (by omega) p1
      exact ⟨M4, Eq.trans (e1 (fun N => fX9_passAll_b84 n (nI (k + 1)) N)) e4, p4⟩
theorem pall_38 {P : Nat → Mm → Prop} (hP : PStep P) : ∀ n k M, k ≤ 12 → 12 < k + n → P (3 + 2 * k) M → ∃ M', fX9_passAll_b38 n (nI k) M = some ((), M') ∧ P 57 M' := by
  intro n
  induction n with
  | zero => intro k M h1 h2; omega
  | succ n ih =>
    intro k M h1 h2 h
    rw [fX9_passAll_b38]
    by_cases hk : k = 12
    · subst hk
      rw [if_pos (by decide)]
      exact pall_84 hP fu 0 M (by omega) (by decide) h
    · have hk' : k < 12 := by omega
      have hi : inb (nI k) 12 = true := inb_nI hk' (by decide)
      have hc : (nI k).toNatClampNeg = k := nI_clamp (by omega)
      rw [if_neg (nI_ge hk' (by decide))]
      simp only [gd_of hi, hc, nI_1']
      obtain ⟨M1, e1, p1⟩ := step_at hP (t := 3 + 2 * k) (c := 1) (k := k) (by omega) (loc_1 k hk').1 h
      obtain ⟨M2, e2, p2⟩ := step_at hP (t := 3 + 2 * k + 1) (c := 2) (k := k) (by omega) (by rw [show 3 + 2 * k + 1 = 4 + 2 * k by omega]; exact (loc_1 k hk').2) p1
      obtain ⟨M4, e4, p4⟩ := ih (k + 1) M2 (by omega) (by omega) (by rw [show 3 + 2 * (k + 1) = 3 + 2 * k + 1 + 1 by omega]; exact p2)
      refine ⟨M4, ?_, p4⟩
      refine Eq.trans (e1 (fun N => bd (fX9_pass (N.1 2 k) N) fun r6 M6 => fX9_passAll_b38 n (nI (k + 1)) (sI M6 2 k r6))) ?_
      exact Eq.trans (e2 (fun N => fX9_passAll_b38 n (nI (k + 1)) N)) e4
theorem pall {P : Nat → Mm → Prop} (hP : PStep P) {M : Mm} (h : P 0 M) : ∃ M', fX9_passAll M = some ((), M') ∧ P 57 M' := by
  unfold fX9_passAll
  obtain ⟨M1, e1, p1⟩ := step_at hP (t := 0) (c := 0) (k := 0) (by decide) rfl h
  obtain ⟨M2, e2, p2⟩ := step_at hP (t := 1) (c := 0) (k := 1) (by decide) rfl p1
  obtain ⟨M3, e3, p3⟩ := step_at hP (t := 2) (c := 0) (k := 8) (by decide) rfl p2
  obtain ⟨M4, e4, p4⟩ := pall_38 hP fu 0 M3 (by omega) (by decide) p3
  refine ⟨M4, ?_, p4⟩
  refine Eq.trans (e1 (fun N => bd (fX9_pass (N.1 0 1) N) fun r2 M2 => bd (fX9_pass ((sI M2 0 1 r2).1 0 8) (sI M2 0 1 r2)) fun r3 M3 => fX9_passAll_b38 fu (nI 0) (sI M3 0 8 r3))) ?_
  refine Eq.trans (e2 (fun N => bd (fX9_pass (N.1 0 8) N) fun r3 M3 => fX9_passAll_b38 fu (nI 0) (sI M3 0 8 r3))) ?_
  exact Eq.trans (e3 (fun N => fX9_passAll_b38 fu (nI 0) N)) e4
def WI (M0 : Mm) (B t : Nat) (M : Mm) : Prop := M.1 0 31 = nI (B + t) ∧ M.1 0 32 = nI 1 ∧ (∀ j, j < t → M.1 16 (B + j) = M0.1 (loc j).1 (loc j).2) ∧ (∀ j, ¬ (B ≤ j ∧ j < B + t) → M.1 16 j = M0.1 16 j) ∧ (∀ a, a ≠ 0 → a ≠ 16 → M.1 a = M0.1 a) ∧ ∀ j, j ≠ 31 → M.1 0 j = M0.1 0 j
theorem WI_step {M0 : Mm} {B : Nat} (hB : B ≤ 70) : PStep (WI M0 B) := by
  intro t M ht ⟨h31, h32, hc, ho, ha, h0⟩
  obtain ⟨l1, l2⟩ := loc_r t ht
  have hv : M.1 (loc t).1 (loc t).2 = M0.1 (loc t).1 (loc t).2 := by
    by_cases e : (loc t).1 = 0
    · rw [e]; exact h0 _ (by have := l2 e; omega)
    · rw [ha _ e (by omega)]
  rw [hv]
  generalize hg : M0.1 (loc t).1 (loc t).2 = v at hv
  refine ⟨sI (sI M 16 (B + t) v) 0 31 (nI (B + t + 1)), fun f => ?_, ?_, ?_, fun j hj => ?_, fun j hj => ?_, fun a h1 h2 => ?_, fun j hj => ?_⟩
  · unfold fX9_pass fX9_pass_b20
    rw [h32, if_neg (by decide), h31, gd_of (inb_nI (by omega) (by decide)), nI_clamp (by omega), sI_n (by decide), h31, nI_1', bd_s, sI_self]
    rw [sI_g, if_neg (fun z => by have := l2 z.1; omega), sI_n (by omega)]
    exact hv
  · rw [sI_s, Nat.add_assoc]
  · rw [sI_j _ (by decide), sI_n (by decide)]; exact h32
  · rw [sI_n (by decide), sI_g]
    by_cases e : j = t
    · subst e; rw [if_pos ⟨rfl, rfl⟩, hg]
    · rw [if_neg (fun z => by omega)]; exact hc j (by omega)
  · rw [sI_n (by decide), sI_j _ (by omega)]; exact ho j (by omega)
  · rw [sI_n h1, sI_n h2]; exact ha a h1 h2
  · rw [sI_j _ hj, sI_n (by decide)]; exact h0 j hj
def RI (M0 : Mm) (B t : Nat) (M : Mm) : Prop := M.1 0 31 = nI (B + t) ∧ M.1 0 32 = nI 0 ∧ (∀ j, j < t → M.1 (loc j).1 (loc j).2 = M0.1 16 (B + j)) ∧ (∀ a, 6 < a → M.1 a = M0.1 a) ∧ ∀ j, 8 < j → j ≠ 31 → M.1 0 j = M0.1 0 j
theorem RI_step {M0 : Mm} {B : Nat} (hB : B ≤ 70) : PStep (RI M0 B) := by
  intro t M ht ⟨h31, h32, hc, ha, h0⟩
  obtain ⟨l1, l2⟩ := loc_r t ht
  refine ⟨sI (sI M 0 31 (nI (B + t + 1))) (loc t).1 (loc t).2 (M0.1 16 (B + t)), fun f => ?_, ?_, ?_, fun j hj => ?_, fun a h1 => ?_, fun j hj hj2 => ?_⟩
  · unfold fX9_pass fX9_pass_b20
    rw [h32, if_pos rfl, h31, gd_of (inb_nI (by omega) (by decide)), gd_of (inb_nI (by omega) (by decide)), nI_clamp (by omega), sI_self rfl, h31, nI_1', bd_s, ha 16 (by decide)]
  · rw [sI_g, if_neg (fun z => by have := l2 z.1.symm; omega), sI_s, Nat.add_assoc]
  · rw [sI_g, if_neg (fun z => by have := l2 z.1.symm; omega), sI_j _ (by decide)]; exact h32
  · by_cases e : j = t
    · subst e; rw [sI_s]
    · have hn := loc_inj t ht j (by omega)
      have lj := loc_r j (by omega)
      rw [sI_g, if_neg (fun z => hn (Prod.ext z.1 z.2)), sI_g, if_neg (fun z => by have := lj.2 z.1; omega)]
      exact hc j (by omega)
  · rw [sI_n (by omega), sI_n (by omega)]; exact ha a h1
  · rw [sI_g, if_neg (fun z => by have := l2 z.1.symm; omega), sI_j _ hj2]; exact h0 j hj hj2
theorem KI_fr2 {k : Nat} {b : Sb} {M M' : Mm} (h : ∀ q, 70 * k ≤ q → q < 70 * k + 57 → M'.1 16 q = M.1 16 q) (hn : bn b ≤ 8) (hX : KI k b M) : KI k b M' := by
  obtain ⟨h1, h2, h3, h4, h5, h6⟩ := hX
  refine ⟨?_, ?_, ?_, fun j hj => ⟨?_, ?_⟩, fun j hj => ?_, fun i hi => ⟨?_, ?_, ?_⟩⟩
  · rw [h _ (by omega) (by omega)]; exact h1
  · rw [h _ (by omega) (by omega)]; exact h2
  · rw [h _ (by omega) (by omega)]; exact h3
  · rw [h _ (by omega) (by omega)]; exact (h4 j hj).1
  · rw [h _ (by omega) (by omega)]; exact (h4 j hj).2
  · rw [h _ (by omega) (by omega)]; exact h5 j hj
  · rw [h _ (by omega) (by omega)]; exact (h6 i hi).1
  · rw [h _ (by omega) (by omega)]; exact (h6 i hi).2.1
  · rw [h _ (by omega) (by omega)]; exact (h6 i hi).2.2
theorem KI_w {k : Nat} {b : Sb} {M0 M : Mm} (h : ∀ j, j < 57 → M.1 16 (70 * k + j) = M0.1 (loc j).1 (loc j).2) (hK : MK b M0) (hG : MG b M0) (hn : bn b ≤ 8) : KI k b M := by
  obtain ⟨m1, m2, m3, m4, m5⟩ := hK
  obtain ⟨g1, g2⟩ := hG
  refine ⟨?_, ?_, ?_, fun j hj => ⟨?_, ?_⟩, fun j hj => ?_, fun i hi => ⟨?_, ?_, ?_⟩⟩
  · have := h 0 (by decide); exact this.trans m1
  · have := h 1 (by decide); exact this.trans m2
  · have := h 2 (by decide); exact this.trans g1
  · have := h (3 + 2 * j) (by omega); rw [(loc_1 j hj).1, ← Nat.add_assoc] at this; exact this.trans (m3 j hj)
  · have := h (4 + 2 * j) (by omega); rw [(loc_1 j hj).2, ← Nat.add_assoc] at this; exact this.trans (m4 j hj)
  · have := h (27 + j) (by omega); rw [loc_2 j hj, ← Nat.add_assoc] at this; exact this.trans (m5 j hj)
  · have := h (33 + 3 * i) (by omega); rw [(loc_3 i (by omega)).1, ← Nat.add_assoc] at this; exact this.trans (g2 i hi).1
  · have := h (34 + 3 * i) (by omega); rw [(loc_3 i (by omega)).2.1, ← Nat.add_assoc] at this; exact this.trans (g2 i hi).2.1
  · have := h (35 + 3 * i) (by omega); rw [(loc_3 i (by omega)).2.2, ← Nat.add_assoc] at this; exact this.trans (g2 i hi).2.2
theorem KI_r {k : Nat} {b : Sb} {M0 M : Mm} (h : ∀ j, j < 57 → M.1 (loc j).1 (loc j).2 = M0.1 16 (70 * k + j)) (hK : KI k b M0) (hn : bn b ≤ 8) : MK b M ∧ MG b M := by
  obtain ⟨h1, h2, h3, h4, h5, h6⟩ := hK
  refine ⟨⟨?_, ?_, fun j hj => ?_, fun j hj => ?_, fun j hj => ?_⟩, ?_, fun i hi => ⟨?_, ?_, ?_⟩⟩
  · have := h 0 (by decide); exact this.trans h1
  · have := h 1 (by decide); exact this.trans h2
  · have := h (3 + 2 * j) (by omega); rw [(loc_1 j hj).1, ← Nat.add_assoc] at this; exact this.trans (h4 j hj).1
  · have := h (4 + 2 * j) (by omega); rw [(loc_1 j hj).2, ← Nat.add_assoc] at this; exact this.trans (h4 j hj).2
  · have := h (27 + j) (by omega); rw [loc_2 j hj, ← Nat.add_assoc] at this; exact this.trans (h5 j hj)
  · have := h 2 (by decide); exact this.trans h3
  · have := h (33 + 3 * i) (by omega); rw [(loc_3 i (by omega)).1, ← Nat.add_assoc] at this; exact this.trans (h6 i hi).1
  · have := h (34 + 3 * i) (by omega); rw [(loc_3 i (by omega)).2.1, ← Nat.add_assoc] at this; exact this.trans (h6 i hi).2.1
  · have := h (35 + 3 * i) (by omega); rw [(loc_3 i (by omega)).2.2, ← Nat.add_assoc] at this; exact this.trans (h6 i hi).2.2
theorem imgC_k {k : Nat} (hk : k < 2) : imgC (nI k) = 34 + 5 * k := by
  match k, hk with
  | 0, _ => rfl
  | 1, _ => rfl
def uP (I : Nat → Option Sb) (k : Nat) (b : Sb) : Nat → Option Sb := fun j => if j = k then some b else I j
theorem op_image : Op_image Rl := by
  intro x Mx M_ ⟨S, hS, hX, hM⟩
  unfold fX8_image fX9_image
  rw [isWithin_nI x (a := 0) (b := 1) (by decide) (by decide), bd_s, in_nI x (a := 0) (b := 1) (by decide) (by decide), bd_s, ib0, ib0]
  cases hw : wi x 0 1
  · exact ⟨_, _, _, rfl, rfl, S, hS, hX, hM⟩
  obtain ⟨k, _, hk, rfl⟩ := wi_of (by decide) hw
  have hk' : k < 2 := by omega
  have hi : inb (nI k) 2 = true := inb_nI hk' (by decide)
  have hn := hS.2.1.1
  simp only [if_true, gd_of hi, imgC_k hk', nI_clamp (show k < 2 ^ 31 by omega), pk_mul]
  obtain ⟨M1, e1, k1, s1, f1⟩ := copy_k (c := 34 + 5 * k) (d := 1) (by omega) hX.1 hX.2.1 hn
  rw [e1, bd_s]
  obtain ⟨M2, e2, w31, w32, wc, wo, wa, w0⟩ := pall (WI_step (M0 := sI (sI M_ 0 31 (nI (70 * k))) 0 32 (nI 1)) (B := 70 * k) (by omega)) (M := sI (sI M_ 0 31 (nI (70 * k))) 0 32 (nI 1)) ⟨by rw [sI_j _ (by decide), sI_s]; rfl, sI_s _ _ _ _, fun j hj => absurd hj (by omega), fun j hj => rfl, fun _ _ _ => rfl, fun _ _ => rfl⟩
  rw [e2, bd_s]
  have q0 : ∀ j, j ≠ 31 → j ≠ 32 → M2.1 0 j = M_.1 0 j := fun j h1 h2 => by rw [w0 j h1, sI_j _ h2, sI_j _ h1]
  have qa : ∀ a, a ≠ 0 → a ≠ 16 → M2.1 a = M_.1 a := fun a h1 h2 => by rw [wa a h1 h2, sI_n h1, sI_n h1]
  have mk : MK S.1 (sI (sI M_ 0 31 (nI (70 * k))) 0 32 (nI 1)) := MK_0 (MK_0 hM.1 (by decide) _) (by decide) _
  have mg : MG S.1 (sI (sI M_ 0 31 (nI (70 * k))) 0 32 (nI 1)) := MG_fr (by rw [sI_j _ (by decide), sI_j _ (by decide)]) (by rw [sI_n (by decide), sI_n (by decide)]) (by rw [sI_n (by decide), sI_n (by decide)]) (by rw [sI_n (by decide), sI_n (by decide)]) hM.2.1
  refine ⟨_, _, _, rfl, rfl, (S.1, S.2.1, uP S.2.2 k S.1), ⟨hS.1, hS.2.1, hS.2.2.1, hS.2.2.2.1, fun j b hj hb => ?_⟩, ?_, ?_⟩
  · have hb : uP S.2.2 k S.1 j = some b := hb
    unfold uP at hb
    by_cases e : j = k
    · rw [if_pos e] at hb; cases hb; exact ⟨hS.1, hS.2.1⟩
    · rw [if_neg e] at hb; exact hS.2.2.2.2 j b hj hb
  · obtain ⟨p1, p2, p3⟩ := hX.2.2
    refine ⟨XK_fr (fun a h1 h2 => by rw [sI_n (by omega), f1 a (by omega)]) hX.1, XS_fr (by rw [sI_n (by decide), f1 1 (by omega)]) (by rw [sI_n (by decide), f1 _ (by omega)]) hX.2.1, by rw [sI_n (by decide), f1 6 (by omega)]; exact p1, fun i hi => by rw [sI_n (by decide), f1 7 (by omega)]; exact p2 i hi, fun j hj => ?_⟩
    show (sI M1 44 k (nI 1)).1 44 j = nI (uP S.2.2 k S.1 j).isSome.toNat ∧ ∀ b, uP S.2.2 k S.1 j = some b → XK (34 + 5 * j) b (sI M1 44 k (nI 1)) ∧ XS (34 + 5 * j) b (sI M1 44 k (nI 1))
    unfold uP
    by_cases e : j = k
    · subst e
      rw [if_pos rfl]
      refine ⟨sI_s _ _ _ _, fun b hb => ?_⟩
      cases hb
      exact ⟨XK_fr (fun a h1 h2 => sI_n (by omega)) k1, XS_fr (sI_n (by omega)) (sI_n (by omega)) s1⟩
    · rw [if_neg e, sI_j _ e, f1 44 (by omega)]
      refine ⟨(p3 j hj).1, fun b hb => ⟨XK_fr (fun a h1 h2 => by rw [sI_n (by omega), f1 a (by omega)]) ((p3 j hj).2 b hb).1, XS_fr (by rw [sI_n (by omega), f1 _ (by omega)]) (by rw [sI_n (by omega), f1 _ (by omega)]) ((p3 j hj).2 b hb).2⟩⟩
  · obtain ⟨p1, p2, p3⟩ := hM.2.2
    have h17 : ∀ a, a ≠ 17 → (sI M2 17 k (nI 1)).1 a = M2.1 a := fun a ha => sI_n ha
    refine ⟨MK_fr (by rw [h17 0 (by decide), q0 0 (by decide) (by decide)]) (by rw [h17 0 (by decide), q0 1 (by decide) (by decide)]) (by rw [h17 1 (by decide), qa 1 (by decide) (by decide)]) (by rw [h17 2 (by decide), qa 2 (by decide) (by decide)]) (by rw [h17 3 (by decide), qa 3 (by decide) (by decide)]) hM.1, MG_fr (by rw [h17 0 (by decide), q0 8 (by decide) (by decide)]) (by rw [h17 4 (by decide), qa 4 (by decide) (by decide)]) (by rw [h17 5 (by decide), qa 5 (by decide) (by decide)]) (by rw [h17 6 (by decide), qa 6 (by decide) (by decide)]) hM.2.1, by rw [h17 0 (by decide), q0 10 (by decide) (by decide)]; exact p1, fun i hi => by rw [h17 7 (by decide), qa 7 (by decide) (by decide)]; exact p2 i hi, fun j hj => ?_⟩
    show (sI M2 17 k (nI 1)).1 17 j = nI (uP S.2.2 k S.1 j).isSome.toNat ∧ ∀ b, uP S.2.2 k S.1 j = some b → KI j b (sI M2 17 k (nI 1))
    unfold uP
    by_cases e : j = k
    · subst e
      rw [if_pos rfl]
      refine ⟨sI_s _ _ _ _, fun b hb => ?_⟩
      cases hb
      exact KI_fr (h17 16 (by decide)) (KI_w wc mk mg hn)
    · rw [if_neg e, sI_j _ e, qa 17 (by decide) (by decide)]
      refine ⟨(p3 j hj).1, fun b hb => KI_fr (h17 16 (by decide)) (KI_fr2 (M := M_) (fun q h1 h2 => ?_) (hS.2.2.2.2 j b hj hb).2.1 ((p3 j hj).2 b hb))⟩
      rw [wo q (by omega), sI_n (by decide), sI_n (by decide)]
theorem op_restore : Op_restore Rl := by
  intro x Mx M_ ⟨S, hS, hX, hM⟩
  unfold fX8_restore fX9_restore
  rw [isWithin_nI x (a := 0) (b := 1) (by decide) (by decide), bd_s, in_nI x (a := 0) (b := 1) (by decide) (by decide), bd_s, ib0, ib0]
  cases hw : wi x 0 1
  · exact ⟨_, _, _, rfl, rfl, S, hS, hX, hM⟩
  obtain ⟨k, _, hk, rfl⟩ := wi_of (by decide) hw
  have hk' : k < 2 := by omega
  have hi : inb (nI k) 2 = true := inb_nI hk' (by decide)
  simp only [if_true, gd_of hi, imgC_k hk', nI_clamp (show k < 2 ^ 31 by omega), pk_mul]
  obtain ⟨x1, x2⟩ := hX.2.2.2.2 k hk'
  obtain ⟨m1, m2⟩ := hM.2.2.2.2 k hk'
  rw [x1, m1, ib0, ib0]
  cases hb : S.2.2 k with
  | none => exact ⟨_, _, _, rfl, rfl, S, hS, hX, hM⟩
  | some b =>
    obtain ⟨xk, xs⟩ := x2 b hb
    have ki := m2 b hb
    obtain ⟨ok, os⟩ := hS.2.2.2.2 k b hk' hb
    simp only [Option.isSome_some, if_true]
    obtain ⟨M1, e1, k1, s1, f1⟩ := copy_k (c := 1) (d := 34 + 5 * k) (by omega) xk xs os.1
    obtain ⟨M2, e2, w31, w32, wc, wa, w0⟩ := pall (RI_step (M0 := sI (sI M_ 0 31 (nI (70 * k))) 0 32 (nI 0)) (B := 70 * k) (by omega)) (M := sI (sI M_ 0 31 (nI (70 * k))) 0 32 (nI 0)) ⟨by rw [sI_j _ (by decide), sI_s]; rfl, sI_s _ _ _ _, fun j hj => absurd hj (by omega), fun _ _ => rfl, fun _ _ _ => rfl⟩
    rw [e1, bd_s, e2, bd_s]
    obtain ⟨mk, mg⟩ := KI_r wc (KI_fr (M' := sI (sI M_ 0 31 (nI (70 * k))) 0 32 (nI 0)) (by rw [sI_n (by decide), sI_n (by decide)]) ki) os.1
    refine ⟨_, _, _, rfl, rfl, (b, S.2), ⟨ok, os, hS.2.2⟩, ⟨k1, s1, PX_fr (fun a ha => f1 a (by omega)) hX.2.2⟩, mk, mg, PM_fr ?_ ?_ ?_ ?_ hM.2.2⟩
    · rw [w0 10 (by decide) (by decide), sI_j _ (by decide), sI_j _ (by decide)]
    · rw [wa 7 (by decide), sI_n (by decide), sI_n (by decide)]
    · rw [wa 16 (by decide), sI_n (by decide), sI_n (by decide)]
    · rw [wa 17 (by decide), sI_n (by decide), sI_n (by decide)]
