theorem RX_pad {S : Sa} {M M' : Mm} (h : ∀ a, 6 ≤ a → M'.1 a = M.1 a) (hX : PX S.2 M) : PX S.2 M' := PX_fr (fun a ha => h a (by omega)) hX
/-- a word about one number of the books -/
def sPres (b : Sb) (p : Nat) : Sb := ((p, b.1.2), b.2)
def sTrust (b : Sb) (t : Nat) : Sb := ((bp b, t, br b, bz b, bw b), b.2)
def sRate (b : Sb) (r v : Nat) : Sb := ((bp b, bt b, br b, bz b, un (bw b) r v), b.2)
theorem RX_pres {S : Sa} {M : Mm} (hX : RX S M) (p : Nat) : RX (sPres S.1 p, S.2) (sI M 1 0 (nI p)) := by
  obtain ⟨⟨x1, x2, x3, x4, x5⟩, ⟨s1, s2, e, s3, s4⟩, hp⟩ := hX
  refine ⟨⟨sI_s _ _ _ _, by rw [sI_j _ (by decide)]; exact x2, fun k hk => by rw [sI_n (by decide)]; exact x3 k hk, fun k hk => by rw [sI_n (by decide)]; exact x4 k hk, fun k hk => by rw [sI_n (by decide)]; exact x5 k hk⟩, ⟨by rw [sI_j _ (by decide)]; exact s1, fun i hi => by rw [sI_n (by decide)]; exact s2 i hi, e, by rw [sI_j _ (by decide)]; exact s3, s4⟩, PX_fr (fun a ha => sI_n (by omega)) hp⟩
theorem RM_pres {S : Sa} {M : Mm} (hM : RM S M) (p : Nat) : RM (sPres S.1 p, S.2) (sI M 0 0 (nI p)) := by
  obtain ⟨⟨x1, x2, x3, x4, x5⟩, hg, hp⟩ := hM
  refine ⟨⟨sI_s _ _ _ _, by rw [sI_j _ (by decide)]; exact x2, fun k hk => by rw [sI_n (by decide)]; exact x3 k hk, fun k hk => by rw [sI_n (by decide)]; exact x4 k hk, fun k hk => by rw [sI_n (by decide)]; exact x5 k hk⟩, MG_fr (sI_j _ (by decide)) (sI_n (by decide)) (sI_n (by decide)) (sI_n (by decide)) hg, PM_fr (sI_j _ (by decide)) (sI_n (by decide)) (sI_n (by decide)) (sI_n (by decide)) hp⟩
theorem RX_trust {S : Sa} {M : Mm} (hX : RX S M) (t : Nat) : RX (sTrust S.1 t, S.2) (sI M 1 1 (nI t)) := by
  obtain ⟨⟨x1, x2, x3, x4, x5⟩, ⟨s1, s2, e, s3, s4⟩, hp⟩ := hX
  refine ⟨⟨by rw [sI_j _ (by decide)]; exact x1, sI_s _ _ _ _, fun k hk => by rw [sI_n (by decide)]; exact x3 k hk, fun k hk => by rw [sI_n (by decide)]; exact x4 k hk, fun k hk => by rw [sI_n (by decide)]; exact x5 k hk⟩, ⟨by rw [sI_j _ (by decide)]; exact s1, fun i hi => by rw [sI_n (by decide)]; exact s2 i hi, e, by rw [sI_j _ (by decide)]; exact s3, s4⟩, PX_fr (fun a ha => sI_n (by omega)) hp⟩
theorem RM_trust {S : Sa} {M : Mm} (hM : RM S M) (t : Nat) : RM (sTrust S.1 t, S.2) (sI M 0 1 (nI t)) := by
  obtain ⟨⟨x1, x2, x3, x4, x5⟩, hg, hp⟩ := hM
  refine ⟨⟨by rw [sI_j _ (by decide)]; exact x1, sI_s _ _ _ _, fun k hk => by rw [sI_n (by decide)]; exact x3 k hk, fun k hk => by rw [sI_n (by decide)]; exact x4 k hk, fun k hk => by rw [sI_n (by decide)]; exact x5 k hk⟩, MG_fr (sI_j _ (by decide)) (sI_n (by decide)) (sI_n (by decide)) (sI_n (by decide)) hg, PM_fr (sI_j _ (by decide)) (sI_n (by decide)) (sI_n (by decide)) (sI_n (by decide)) hp⟩
theorem un_nI {f : Nat → Nat} {M : Mm} {c k v j : Nat} (h : M.1 c j = nI (f j)) : (sI M c k (nI v)).1 c j = nI (un f k v j) := by
  rw [sI_g]
  unfold un
  by_cases e : j = k
  · rw [if_pos ⟨rfl, e⟩, if_pos e]
  · rw [if_neg (fun z => e z.2), if_neg e]; exact h
theorem RX_rate {S : Sa} {M : Mm} (hX : RX S M) (r v : Nat) : RX (sRate S.1 r v, S.2) (sI M 4 r (nI v)) := by
  obtain ⟨⟨x1, x2, x3, x4, x5⟩, ⟨s1, s2, e, s3, s4⟩, hp⟩ := hX
  refine ⟨⟨by rw [sI_n (by decide)]; exact x1, by rw [sI_n (by decide)]; exact x2, fun k hk => by rw [sI_n (by decide)]; exact x3 k hk, fun k hk => by rw [sI_n (by decide)]; exact x4 k hk, fun k hk => un_nI (x5 k hk)⟩, ⟨by rw [sI_n (by decide)]; exact s1, fun i hi => by rw [sI_n (by decide)]; exact s2 i hi, e, by rw [sI_n (by decide)]; exact s3, s4⟩, PX_fr (fun a ha => sI_n (by omega)) hp⟩
theorem RM_rate {S : Sa} {M : Mm} (hM : RM S M) (r v : Nat) : RM (sRate S.1 r v, S.2) (sI M 3 r (nI v)) := by
  obtain ⟨⟨x1, x2, x3, x4, x5⟩, hg, hp⟩ := hM
  refine ⟨⟨by rw [sI_n (by decide)]; exact x1, by rw [sI_n (by decide)]; exact x2, fun k hk => by rw [sI_n (by decide)]; exact x3 k hk, fun k hk => by rw [sI_n (by decide)]; exact x4 k hk, fun k hk => un_nI (x5 k hk)⟩, MG_fr (by rw [sI_n (by decide)]) (sI_n (by decide)) (sI_n (by decide)) (sI_n (by decide)) hg, PM_fr (by rw [sI_n (by decide)]) (sI_n (by decide)) (sI_n (by decide)) (sI_n (by decide)) hp⟩
theorem op_leave : Op_leave Rl := by
  intro a1 Mx M_ ⟨S, hS, hX, hM⟩
  have hO := hS.1
  unfold fX8_leave fX9_leave
  simp only [isThere_x hX.1 hO, isOfficer_x hM.1 hO, bd_s, ib0]
  cases hw : (wi a1 0 11 && th S.1 a1.toNatClampNeg)
  · exact ⟨_, _, _, rfl, rfl, S, hS, hX, hM⟩
  rw [Bool.and_eq_true] at hw
  obtain ⟨k, _, hk, rfl⟩ := wi_of (by decide) hw.1
  have hd : dif (bp S.1) (2 ^ k) < 4096 := dif_lt (n := 12) hO.1
  simp only [if_true]
  rw [j2k (by omega), hX.1.1, hM.1.1, nI_dif, sI_s, sI_s, bitCount_n hd, ones_n hd]
  exact ⟨_, _, _, rfl, rfl, (sPres S.1 (dif (bp S.1) (2 ^ k)), S.2), ⟨⟨hd, hO.2⟩, hS.2⟩, RX_pres hX _, RM_pres hM _⟩
theorem op_rate : Op_rate Rl := by
  intro a1 a2 Mx M_ ⟨S, hS, hX, hM⟩
  have hO := hS.1
  unfold fX8_rate fX9_rate
  simp only [isWithin_nI a1 (a := 0) (b := 5) (by decide) (by decide), isRank_x, isWithin_nI a2 (a := 1) (b := 99) (by decide) (by decide), in_nI a2 (a := 1) (b := 99) (by decide) (by decide), bd_s, ib0]
  cases hw : wi a1 0 5
  · exact ⟨_, _, _, rfl, rfl, S, hS, hX, hM⟩
  cases hv : wi a2 1 99
  · exact ⟨_, _, _, rfl, rfl, S, hS, hX, hM⟩
  obtain ⟨r, _, hr, rfl⟩ := wi_of (by decide) hw
  obtain ⟨v, hv1, hv2, rfl⟩ := wi_of (by decide) hv
  simp only [if_true]
  have hr' : r < 6 := by omega
  rw [gd_of (inb_nI hr' (by decide)), gd_of (inb_nI hr' (by decide)), gd_of (inb_nI hr' (by decide)), gd_of (inb_nI hr' (by decide)), nI_clamp (by omega)]
  have e1 : Mx.1 4 r = nI (bw S.1 r) := hX.1.2.2.2.2 r hr'
  have e2 : M_.1 3 r = nI (bw S.1 r) := hM.1.2.2.2.2 r hr'
  rw [e1, e2]
  refine ⟨_, _, _, rfl, rfl, (sRate S.1 r v, S.2), ⟨⟨hO.1, hO.2.1, hO.2.2.1, hO.2.2.2.1, fun k hk => ?_⟩, hS.2⟩, RX_rate hX _ _, RM_rate hM _ _⟩
  show 1 ≤ un (bw S.1) r v k ∧ un (bw S.1) r v k ≤ 99
  unfold un
  split
  · exact ⟨hv1, hv2⟩
  · exact hO.2.2.2.2 k hk
theorem op_trust : Op_trust Rl := by
  intro a1 Mx M_ ⟨S, hS, hX, hM⟩
  have hO := hS.1
  unfold fX8_trust fX9_trust
  simp only [isWithin_nI a1 (a := 0) (b := 9) (by decide) (by decide), in_nI a1 (a := 0) (b := 9) (by decide) (by decide), bd_s, ib0]
  cases hw : wi a1 0 9
  · exact ⟨_, _, _, rfl, rfl, S, hS, hX, hM⟩
  obtain ⟨t, _, ht, rfl⟩ := wi_of (by decide) hw
  simp only [if_true]
  rw [hX.1.2.1, hM.1.2.1]
  exact ⟨_, _, _, rfl, rfl, (sTrust S.1 t, S.2), ⟨⟨hO.1, ht, hO.2.2⟩, hS.2⟩, RX_trust hX _, RM_trust hM _⟩
theorem op_wipe : Op_wipe Rl := by
  intro Mx M_ ⟨S, hS, hX, hM⟩
  unfold fX8_wipe fX9_wipe
  rw [hX.2.2.1, hM.2.2.1]
  refine ⟨_, _, _, rfl, rfl, (S.1, (0, S.2.1.2), S.2.2), ⟨hS.1, hS.2.1, by show (0 : Nat) ≤ 60; decide, fun i hi => absurd hi (Nat.not_lt_zero i), hS.2.2.2.2⟩, ?_, ?_⟩
  · obtain ⟨x1, x2, p1, p2, p3⟩ := hX
    refine ⟨XK_fr (fun a h1 h2 => sI_n (by omega)) x1, XS_fr (sI_n (by decide)) (sI_n (by decide)) x2, sI_s _ _ _ _, fun i hi => absurd hi (Nat.not_lt_zero i), fun k hk => ⟨by rw [sI_n (by decide)]; exact (p3 k hk).1, fun b hb => ?_⟩⟩
    exact ⟨XK_fr (fun a h1 h2 => sI_n (by omega)) ((p3 k hk).2 b hb).1, XS_fr (sI_n (by omega)) (sI_n (by omega)) ((p3 k hk).2 b hb).2⟩
  · obtain ⟨x1, x2, p1, p2, p3⟩ := hM
    refine ⟨MK_fr (sI_j _ (by decide)) (sI_j _ (by decide)) (sI_n (by decide)) (sI_n (by decide)) (sI_n (by decide)) x1, MG_fr (sI_j _ (by decide)) (sI_n (by decide)) (sI_n (by decide)) (sI_n (by decide)) x2, sI_s _ _ _ _, fun i hi => absurd hi (Nat.not_lt_zero i), fun k hk => ⟨by rw [sI_n (by decide)]; exact (p3 k hk).1, fun b hb => KI_fr (sI_n (by decide)) ((p3 k hk).2 b hb)⟩⟩
theorem op_forget : Op_forget Rl := by
  intro Mx M_ ⟨S, hS, hX, hM⟩
  unfold fX8_forget fX9_forget
  rw [hX.2.1.1, hM.2.1.1]
  refine ⟨_, _, _, rfl, rfl, ((S.1.1, (0, S.1.2.2)), S.2), ⟨hS.1, ⟨by show (0 : Nat) ≤ 8; decide, fun i hi => absurd hi (Nat.not_lt_zero i)⟩, hS.2.2⟩, ?_, ?_⟩
  · obtain ⟨⟨x1, x2, x3, x4, x5⟩, ⟨s1, s2, e, s3, s4, s5⟩, hp⟩ := hX
    refine ⟨⟨by rw [sI_j _ (by decide)]; exact x1, by rw [sI_j _ (by decide)]; exact x2, fun k hk => by rw [sI_n (by decide)]; exact x3 k hk, fun k hk => by rw [sI_n (by decide)]; exact x4 k hk, fun k hk => by rw [sI_n (by decide)]; exact x5 k hk⟩, ⟨sI_s _ _ _ _, fun i hi => absurd hi (Nat.not_lt_zero i), e, by rw [sI_j _ (by decide)]; exact s3, s4, fun i hi => absurd hi (Nat.not_lt_zero i)⟩, PX_fr (fun a ha => sI_n (by omega)) hp⟩
  · obtain ⟨x1, x2, p⟩ := hM
    refine ⟨MK_fr (sI_j _ (by decide)) (sI_j _ (by decide)) (sI_n (by decide)) (sI_n (by decide)) (sI_n (by decide)) x1, ⟨sI_s _ _ _ _, fun i hi => absurd hi (Nat.not_lt_zero i)⟩, PM_fr (sI_j _ (by decide)) (sI_n (by decide)) (sI_n (by decide)) (sI_n (by decide)) p⟩
