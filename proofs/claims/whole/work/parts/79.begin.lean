/-! the start of both -/
def r0 (k : Nat) : Nat := if k = 0 then 1 else if k = 1 then 2 else if k = 2 then 4 else if k = 3 then 8 else if k = 4 then 20 else 60
def b0 : Sb := ((0, 5, fun _ => 0, fun _ => 0, r0), (0, fun _ => 0, fun _ => false))
def S0 : Sa := (b0, (0, fun _ => 0), fun _ => none)
theorem r0_ok : ∀ k, k < 6 → 1 ≤ r0 k ∧ r0 k ≤ 99 := by decide
theorem x0_1 : Mx0.1 1 0 = nI 0 ∧ Mx0.1 1 1 = nI 5 ∧ Mx0.1 1 2 = nI 0 ∧ Mx0.1 1 3 = nI 0 ∧ Mx0.1 6 1 = nI 0 ∧ Mx0.1 15 0 = nI 0 ∧ Mx0.1 16 0 = nI 0 := by decide +kernel
theorem x0_2 : ∀ k, k < 12 → Mx0.1 2 k = nI 0 ∧ Mx0.1 3 k = nI 0 := by decide +kernel
theorem x0_3 : ∀ k, k < 6 → Mx0.1 4 k = nI (r0 k) := by decide +kernel
theorem x0_4 : ∀ k, k < 2 → Mx0.1 44 k = nI 0 := by decide +kernel
theorem m0_1 : Mm0.1 0 0 = nI 0 ∧ Mm0.1 0 1 = nI 5 ∧ Mm0.1 0 8 = nI 0 ∧ Mm0.1 0 10 = nI 0 := by decide +kernel
theorem m0_2 : ∀ k, k < 12 → Mm0.1 1 k = nI 0 ∧ Mm0.1 2 k = nI 0 := by decide +kernel
theorem m0_3 : ∀ k, k < 6 → Mm0.1 3 k = nI (r0 k) := by decide +kernel
theorem m0_4 : ∀ k, k < 2 → Mm0.1 17 k = nI 0 := by decide +kernel
theorem start_R : Rl2 Mx0 Mm0 := by
  obtain ⟨x1, x2, x3, x4, x5, x6, x7⟩ := x0_1
  obtain ⟨m1, m2, m3, m4⟩ := m0_1
  refine ⟨⟨S0, ⟨⟨?_, ?_, ?_, ?_, r0_ok⟩, ⟨?_, ?_⟩, ?_, ?_, ?_⟩, ⟨⟨x1, x2, fun k hk => (x0_2 k hk).1, fun k hk => (x0_2 k hk).2, x0_3⟩, ⟨x3, ?_, 0, x4, by decide, ?_⟩, x5, ?_, fun k hk => ⟨x0_4 k hk, ?_⟩⟩, ⟨m1, m2, fun k hk => (m0_2 k hk).1, fun k hk => (m0_2 k hk).2, m0_3⟩, ⟨m3, ?_⟩, m4, ?_, fun k hk => ⟨m0_4 k hk, ?_⟩⟩, x6, x7⟩
  · show 0 < 4096; decide
  · show 5 ≤ 9; decide
  · intro k _; show 0 < 6; decide
  · intro k _; show 0 < 5; decide
  · show 0 ≤ 8; decide
  · intro i hi; exact absurd hi (Nat.not_lt_zero i)
  · show 0 ≤ 60; decide
  · intro i hi; exact absurd hi (Nat.not_lt_zero i)
  · intro k b _ h; cases h
  · intro i hi; exact absurd hi (Nat.not_lt_zero i)
  · intro i hi; exact absurd hi (Nat.not_lt_zero i)
  · intro i hi; exact absurd hi (Nat.not_lt_zero i)
  · intro b h; cases h
  · intro i hi; exact absurd hi (Nat.not_lt_zero i)
  · intro i hi; exact absurd hi (Nat.not_lt_zero i)
  · intro b h; cases h
theorem sim_R : Sim Rl2 := ⟨op2_officer, op2_leave, op2_rate, op2_trust, op2_say, op2_wipe, op2_fault, op2_judge, op2_behind, op2_ledger, op2_done, op2_owed, op_home, op_bring, op_lots, op2_even, op2_fair, op2_seen, op2_forget, op_forged, op_rank, op_weigh, op2_broken, op2_rests, op2_year, op2_image, op2_restore, op2_told⟩
theorem whole_start {p : Program} {e : Env} {s : State} {m : MethodId} {below : List Frame} {meth : Method} {c : Code} (l : Launch) {b L : Nat} {xs : Nat → Int32} (hL : L ≤ 320) (C0 : lw_At p s m meth c b L xs) : W p l e room_1 s m #[Value.ref b] below meth c s.heap [] 0 0 (lw_Z below #[Value.ref b] s) (entryFrame m ([Value.ref b] : List Value).toArray 4) := by
  exact whole_of sim_R start_R l hL C0
