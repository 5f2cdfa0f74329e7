/-! the relation of both memories -/
abbrev Sa : Type := Sb × (Nat × (Nat → Nat)) × (Nat → Option Sb)
def XO (S : Sa) : Prop := OK S.1 ∧ OS S.1 ∧ S.2.1.1 ≤ 60 ∧ (∀ i, i < S.2.1.1 → 33 ≤ S.2.1.2 i ∧ S.2.1.2 i ≤ 126) ∧ ∀ k b, k < 2 → S.2.2 k = some b → OK b ∧ OS b
def PX (P : (Nat × (Nat → Nat)) × (Nat → Option Sb)) (M : Mm) : Prop := M.1 6 1 = nI P.1.1 ∧ (∀ i, i < P.1.1 → M.1 7 i = nI (P.1.2 i)) ∧ ∀ k, k < 2 → M.1 44 k = nI (P.2 k).isSome.toNat ∧ ∀ b, P.2 k = some b → XK (34 + 5 * k) b M ∧ XS (34 + 5 * k) b M
def RX (S : Sa) (M : Mm) : Prop := XK 1 S.1 M ∧ XS 1 S.1 M ∧ PX S.2 M
/-- an image, as the reference keeps it -/
def KI (k : Nat) (b : Sb) (M : Mm) : Prop := M.1 16 (70 * k) = nI (bp b) ∧ M.1 16 (70 * k + 1) = nI (bt b) ∧ M.1 16 (70 * k + 2) = nI (bn b) ∧ (∀ j, j < 12 → M.1 16 (70 * k + 3 + 2 * j) = nI (br b j) ∧ M.1 16 (70 * k + 4 + 2 * j) = nI (bz b j)) ∧ (∀ j, j < 6 → M.1 16 (70 * k + 27 + j) = nI (bw b j)) ∧ ∀ i, i < bn b → M.1 16 (70 * k + 33 + 3 * i) = nI (bc b i % 64) ∧ M.1 16 (70 * k + 34 + 3 * i) = nI (bc b i / 64) ∧ M.1 16 (70 * k + 35 + 3 * i) = nI (be b i).toNat
def PM (P : (Nat × (Nat → Nat)) × (Nat → Option Sb)) (M : Mm) : Prop := M.1 0 10 = nI P.1.1 ∧ (∀ i, i < P.1.1 → M.1 7 i = nI (P.1.2 i)) ∧ ∀ k, k < 2 → M.1 17 k = nI (P.2 k).isSome.toNat ∧ ∀ b, P.2 k = some b → KI k b M
def RM (S : Sa) (M : Mm) : Prop := MK S.1 M ∧ MG S.1 M ∧ PM S.2 M
def Rl (Mx M_ : Mm) : Prop := ∃ S : Sa, XO S ∧ RX S Mx ∧ RM S M_
def un (f : Nat → Nat) (k v : Nat) : Nat → Nat := fun j => if j = k then v else f j
theorem XK_fr {c : Nat} {b : Sb} {M M' : Mm} (h : ∀ a, c ≤ a → a ≤ c + 3 → M'.1 a = M.1 a) (hX : XK c b M) : XK c b M' := by
  unfold XK at hX ⊢
  rw [h c (by omega) (by omega), h (c + 1) (by omega) (by omega), h (c + 2) (by omega) (by omega), h (c + 3) (by omega) (by omega)]
  exact hX
theorem XS_fr {c : Nat} {b : Sb} {M M' : Mm} (h : M'.1 c = M.1 c) (h2 : M'.1 (c + 4) = M.1 (c + 4)) (hX : XS c b M) : XS c b M' := by
  unfold XS at hX ⊢
  rw [h, h2]
  exact hX
theorem PX_fr {P : (Nat × (Nat → Nat)) × (Nat → Option Sb)} {M M' : Mm} (h : ∀ a, (6 ≤ a ∧ a ≤ 7) ∨ (34 ≤ a ∧ a ≤ 44) → M'.1 a = M.1 a) (hX : PX P M) : PX P M' := by
  obtain ⟨h1, h2, h3⟩ := hX
  refine ⟨by rw [h 6 (by omega)]; exact h1, fun i hi => by rw [h 7 (by omega)]; exact h2 i hi, fun k hk => ⟨by rw [h 44 (by omega)]; exact (h3 k hk).1, fun b hb => ?_⟩⟩
  obtain ⟨h4, h5⟩ := (h3 k hk).2 b hb
  exact ⟨XK_fr (fun a h1 h2 => h a (by omega)) h4, XS_fr (h _ (by omega)) (h _ (by omega)) h5⟩
theorem RX_fr {S : Sa} {M M' : Mm} (h : ∀ a, (1 ≤ a ∧ a ≤ 7) ∨ (34 ≤ a ∧ a ≤ 44) → M'.1 a = M.1 a) (hX : RX S M) : RX S M' :=
  ⟨XK_fr (fun a h1 h2 => h a (by omega)) hX.1, XS_fr (h _ (by omega)) (h _ (by omega)) hX.2.1, PX_fr (fun a ha => h a (by omega)) hX.2.2⟩
theorem KI_fr {k : Nat} {b : Sb} {M M' : Mm} (h : M'.1 16 = M.1 16) (hX : KI k b M) : KI k b M' := by
  unfold KI at hX ⊢
  rw [h]
  exact hX
theorem PM_fr {P : (Nat × (Nat → Nat)) × (Nat → Option Sb)} {M M' : Mm} (h0 : M'.1 0 10 = M.1 0 10) (h7 : M'.1 7 = M.1 7) (h16 : M'.1 16 = M.1 16) (h17 : M'.1 17 = M.1 17) (hX : PM P M) : PM P M' := by
  obtain ⟨h1, h2, h3⟩ := hX
  exact ⟨by rw [h0]; exact h1, by rw [h7]; exact h2, fun k hk => ⟨by rw [h17]; exact (h3 k hk).1, fun b hb => KI_fr h16 ((h3 k hk).2 b hb)⟩⟩
theorem MG_fr {b : Sb} {M M' : Mm} (h0 : M'.1 0 8 = M.1 0 8) (h4 : M'.1 4 = M.1 4) (h5 : M'.1 5 = M.1 5) (h6 : M'.1 6 = M.1 6) (hX : MG b M) : MG b M' := by
  unfold MG at hX ⊢
  rw [h0, h4, h5, h6]
  exact hX
theorem MK_fr {b : Sb} {M M' : Mm} (h0 : M'.1 0 0 = M.1 0 0) (h1 : M'.1 0 1 = M.1 0 1) (h2 : M'.1 1 = M.1 1) (h3 : M'.1 2 = M.1 2) (h4 : M'.1 3 = M.1 3) (hX : MK b M) : MK b M' := by
  unfold MK at hX ⊢
  rw [h0, h1, h2, h3, h4]
  exact hX
theorem sI_g (M : Mm) (c k : Nat) (v : Int32) (a j : Nat) : (sI M c k v).1 a j = if a = c ∧ j = k then v else M.1 a j := rfl
theorem sI_n {M : Mm} {c k a : Nat} {v : Int32} (h : a ≠ c) : (sI M c k v).1 a = M.1 a := sI_ne h
theorem sI_s (M : Mm) (c k : Nat) (v : Int32) : (sI M c k v).1 c k = v := by simp [sI]
theorem sI_j {M : Mm} {c k j : Nat} {v : Int32} (a : Nat) (h : j ≠ k) : (sI M c k v).1 a j = M.1 a j := by simp [sI, h]
theorem pow_lt4 {k : Nat} (hk : k < 12) : 2 ^ k < 4096 := by
  have : 2 ^ k < 2 ^ 12 := Nat.pow_lt_pow_right (by decide) hk
  simpa using this
theorem or_lt4 {a b : Nat} (ha : a < 4096) (hb : b < 4096) : a ||| b < 4096 := by
  have := Nat.or_lt_two_pow (n := 12) (x := a) (y := b) ha hb
  simpa using this
/-- an officer comes anew -/
def sEnter (b : Sb) (k r : Nat) : Sb := ((bp b ||| 2 ^ k, bt b, un (br b) k r, un (bz b) k 0, bw b), b.2)
theorem sEnter_OK {b : Sb} (hO : OK b) {k r : Nat} (hk : k < 12) (hr : r < 6) : OK (sEnter b k r) := by
  obtain ⟨h1, h2, h3, h4, h5⟩ := hO
  refine ⟨or_lt4 h1 (pow_lt4 hk), h2, fun j hj => ?_, fun j hj => ?_, h5⟩
  · show un (br b) k r j < 6
    unfold un; split
    · exact hr
    · exact h3 j hj
  · show un (bz b) k 0 j < 5
    unfold un; split
    · decide
    · exact h4 j hj
theorem enter_k {c : Nat} {b : Sb} {M : Mm} (hX : XK c b M) {k r : Nat} (hk : k < 12) : ∃ M', fX0_enter c (nI k) (nI r) M = some ((), M') ∧ XK c (sEnter b k r) M' ∧ (∀ a, a ≠ c → a ≠ c + 1 → a ≠ c + 2 → M'.1 a = M.1 a) ∧ ∀ j, j ≠ 0 → M'.1 c j = M.1 c j := by
  obtain ⟨h1, h2, h3, h4, h5⟩ := hX
  refine ⟨_, by unfold fX0_enter; rw [gd_of (inb_nI hk (by decide)), gd_of (inb_nI hk (by decide)), nI_clamp (by omega), j2k (by omega), h1, nI_or], ⟨?_, ?_, ?_, ?_, ?_⟩, ?_, ?_⟩
  · rw [sI_n (by omega), sI_n (by omega), sI_s]; rfl
  · rw [sI_n (by omega), sI_n (by omega), sI_j _ (by omega)]; exact h2
  · intro j hj
    rw [sI_n (by omega), sI_g]
    show _ = nI (un (br b) k r j)
    unfold un
    by_cases e : j = k
    · rw [if_pos ⟨rfl, e⟩, if_pos e]
    · rw [if_neg (fun z => e z.2), if_neg e, sI_n (by omega)]; exact h3 j hj
  · intro j hj
    rw [sI_g]
    show _ = nI (un (bz b) k 0 j)
    unfold un
    by_cases e : j = k
    · rw [if_pos ⟨rfl, e⟩, if_pos e]
    · rw [if_neg (fun z => e z.2), if_neg e, sI_n (by omega), sI_n (by omega)]; exact h4 j hj
  · intro j hj
    rw [sI_n (by omega), sI_n (by omega), sI_n (by omega)]; exact h5 j hj
  · intro a a1 a2 a3
    rw [sI_n a3, sI_n a2, sI_n a1]
  · intro j hj
    rw [sI_n (by omega), sI_n (by omega), sI_j _ hj]
/-- both sides of a call, by one answer and one state behind it -/
theorem Rl_of {S S' : Sa} {r : Int32} {x y : Option (Int32 × Mm)} (hS : XO S') (h1 : ∃ M', x = some (r, M') ∧ RX S' M') (h2 : ∃ M', y = some (r, M') ∧ RM S' M') : ∃ (r : Int32) (M1 M2 : Mm), x = some (r, M1) ∧ y = some (r, M2) ∧ Rl M1 M2 := by
  obtain ⟨M1, e1, g1⟩ := h1
  obtain ⟨M2, e2, g2⟩ := h2
  exact ⟨r, M1, M2, e1, e2, S', hS, g1, g2⟩
theorem isRank_x (x : Int32) (M : Mm) : fX9_isRank x M = some (nI (wi x 0 5).toNat, M) := by
  unfold fX9_isRank
  rw [in_nI x (a := 0) (b := 5) (by decide) (by decide), bd_s]
  cases wi x 0 5 <;> rfl
theorem MK_enter {b : Sb} {M : Mm} (hM : MK b M) {k r : Nat} : MK (sEnter b k r) (sI (sI (sI M 0 0 (nI (bp b ||| 2 ^ k))) 1 k (nI r)) 2 k (nI 0)) := by
  obtain ⟨m1, m2, m3, m4, m5⟩ := hM
  refine ⟨?_, ?_, ?_, ?_, ?_⟩
  · rw [sI_n (by decide), sI_n (by decide), sI_s]; rfl
  · rw [sI_n (by decide), sI_n (by decide), sI_j _ (by decide)]; exact m2
  · intro j hj
    rw [sI_n (by decide), sI_g]
    show _ = nI (un (br b) k r j)
    unfold un
    by_cases e : j = k
    · rw [if_pos ⟨rfl, e⟩, if_pos e]
    · rw [if_neg (fun z => e z.2), if_neg e, sI_n (by decide)]; exact m3 j hj
  · intro j hj
    rw [sI_g]
    show _ = nI (un (bz b) k 0 j)
    unfold un
    by_cases e : j = k
    · rw [if_pos ⟨rfl, e⟩, if_pos e]
    · rw [if_neg (fun z => e z.2), if_neg e, sI_n (by decide), sI_n (by decide)]; exact m4 j hj
  · intro j hj
    rw [sI_n (by decide), sI_n (by decide), sI_n (by decide)]; exact m5 j hj
theorem op_officer : Op_officer Rl := by
  intro a1 a2 Mx M_ ⟨S, hS, hX, hM⟩
  obtain ⟨hO, hOS, hp, hq, hi⟩ := hS
  unfold fX8_officer fX9_officer
  simp only [isWithin_nI a1 (a := 0) (b := 11) (by decide) (by decide), in_nI a1 (a := 0) (b := 11) (by decide) (by decide), isWithin_nI a2 (a := 0) (b := 5) (by decide) (by decide), isRank_x, bd_s, ib0]
  cases hw : wi a1 0 11
  · exact ⟨_, _, _, rfl, rfl, S, ⟨hO, hOS, hp, hq, hi⟩, hX, hM⟩
  cases hv : wi a2 0 5
  · exact ⟨_, _, _, rfl, rfl, S, ⟨hO, hOS, hp, hq, hi⟩, hX, hM⟩
  obtain ⟨k, _, hk, rfl⟩ := wi_of (by decide) hw
  obtain ⟨r, _, hr, rfl⟩ := wi_of (by decide) hv
  have hk' : k < 12 := by omega
  have hr' : r < 6 := by omega
  obtain ⟨M1, e1, hX1, hf1, hf2⟩ := enter_k hX.1 (r := r) hk'
  have hO1 := sEnter_OK hO hk' hr'
  have hb1 : M1.1 1 0 = nI (bp (sEnter S.1 k r)) := hX1.1
  refine Rl_of (S := S) (S' := (sEnter S.1 k r, S.2)) (r := nI (pc (bp (sEnter S.1 k r)))) ⟨hO1, hOS, hp, hq, hi⟩ ⟨M1, ?_, hX1, ?_, ?_⟩ ⟨sI (sI (sI M_ 0 0 (nI (bp S.1 ||| 2 ^ k))) 1 k (nI r)) 2 k (nI 0), ?_, MK_enter hM.1, ?_, ?_⟩
  · simp only [if_true, e1, bd_s, hb1, bitCount_n hO1.1]
  · obtain ⟨s1, s2, e, s3, s4, s5⟩ := hX.2.1
    refine ⟨by rw [hf2 2 (by decide)]; exact s1, fun i hi => ?_, e, by rw [hf2 3 (by decide)]; exact s3, s4, s5⟩
    rw [hf1 _ (by omega) (by omega) (by omega)]; exact s2 i hi
  · exact PX_fr (fun a ha => hf1 a (by omega) (by omega) (by omega)) hX.2.2
  · simp only [if_true]
    rw [gd_of (inb_nI hk' (by decide)), gd_of (inb_nI hk' (by decide)), nI_clamp (by omega), j2k (by omega), hM.1.1, nI_or, sI_n (by decide), sI_n (by decide), sI_s, ones_n (n := bp S.1 ||| 2 ^ k) hO1.1]
    rfl
  · refine MG_fr ?_ ?_ ?_ ?_ hM.2.1
    · rw [sI_n (by decide), sI_n (by decide), sI_j _ (by decide)]
    · rw [sI_n (by decide), sI_n (by decide), sI_n (by decide)]
    · rw [sI_n (by decide), sI_n (by decide), sI_n (by decide)]
    · rw [sI_n (by decide), sI_n (by decide), sI_n (by decide)]
  · refine PM_fr ?_ ?_ ?_ ?_ hM.2.2
    · rw [sI_n (by decide), sI_n (by decide), sI_j _ (by decide)]
    · rw [sI_n (by decide), sI_n (by decide), sI_n (by decide)]
    · rw [sI_n (by decide), sI_n (by decide), sI_n (by decide)]
    · rw [sI_n (by decide), sI_n (by decide), sI_n (by decide)]
