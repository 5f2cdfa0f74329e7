/-! lots: the pure side -/
def Su (x y : Nat) : Prop := ∀ i, x.testBit i = true → y.testBit i = true
theorem Su_dif {x y : Nat} : dif x y = 0 ↔ Su x y := dif_zero
theorem Su.refl (x : Nat) : Su x x := fun _ h => h
theorem Su.trans {x y z : Nat} (h : Su x y) (g : Su y z) : Su x z := fun i hi => g i (h i hi)
theorem Su_le {x y : Nat} (h : Su x y) : x ≤ y := by
  have e : y &&& x = x := and_dif.mpr (Su_dif.mpr h)
  rw [← e]
  exact Nat.and_le_left
theorem del_bit (x k i : Nat) : (dif x (2 ^ k)).testBit i = (x.testBit i && !decide (k = i)) := by rw [dif_bit, Nat.testBit_two_pow]
theorem del_su (x k : Nat) : Su (dif x (2 ^ k)) x := fun i hi => by
  rw [del_bit, Bool.and_eq_true] at hi
  exact hi.1
theorem del_lt {x k : Nat} (h : x.testBit k = true) : dif x (2 ^ k) < x := by
  have h1 := Su_le (del_su x k)
  rcases Nat.lt_or_ge (dif x (2 ^ k)) x with h2 | h2
  · exact h2
  · have e : dif x (2 ^ k) = x := by omega
    have := del_bit x k k
    rw [e, h, decide_eq_true rfl] at this
    cases this
theorem del_in {x y k : Nat} (h : Su x y) (hk : x.testBit k = false) : Su x (dif y (2 ^ k)) := fun i hi => by
  rw [del_bit, h i hi, Bool.true_and]
  cases hd : decide (k = i)
  · rfl
  · have e := of_decide_eq_true hd
    rw [← e, hk] at hi
    cases hi
/-- a lot that lacks somebody of another -/
theorem Su_ne {x y : Nat} (h : Su x y) (hn : ¬ x = y) : ∃ k, y.testBit k = true ∧ x.testBit k = false := by
  apply Classical.byContradiction
  intro hc
  apply hn
  apply Nat.eq_of_testBit_eq
  intro i
  cases hy : y.testBit i
  · cases hx : x.testBit i
    · rfl
    · rw [h i hx] at hy; cases hy
  · cases hx : x.testBit i
    · exact absurd ⟨i, hy, hx⟩ hc
    · rfl
theorem bit_lt {x k n : Nat} (hx : x < 2 ^ n) (h : x.testBit k = true) : k < n := by
  rcases Nat.lt_or_ge k n with h1 | h1
  · exact h1
  · rw [Nat.testBit_lt_two_pow (Nat.lt_of_lt_of_le hx (Nat.pow_le_pow_right (n := 2) (by decide) h1))] at h
    cases h
def mx (E : Nat → Nat) (s : Nat) : Nat → Nat
  | 0 => 0
  | k + 1 => max (mx E s k) (if s.testBit k then E (dif s (2 ^ k)) else 0)
theorem mx_congr {E F : Nat → Nat} {s : Nat} (h : ∀ k, s.testBit k = true → E (dif s (2 ^ k)) = F (dif s (2 ^ k))) : ∀ n, mx E s n = mx F s n := by
  intro n
  induction n with
  | zero => rfl
  | succ n ih =>
    rw [mx, mx, ih]
    cases hb : s.testBit n
    · rfl
    · rw [if_pos rfl, if_pos rfl, h n hb]
theorem mx_ge {E : Nat → Nat} {s k : Nat} (h : s.testBit k = true) : ∀ n, k < n → E (dif s (2 ^ k)) ≤ mx E s n := by
  intro n
  induction n with
  | zero => intro h; omega
  | succ n ih =>
    intro hk
    rw [mx]
    by_cases e : k = n
    · subst e; rw [if_pos h]; exact Nat.le_max_right _ _
    · exact Nat.le_trans (ih (by omega)) (Nat.le_max_left _ _)
theorem mx_ex {E : Nat → Nat} {s m : Nat} (hm : 0 < m) : ∀ n, m ≤ mx E s n → ∃ k, k < n ∧ s.testBit k = true ∧ m ≤ E (dif s (2 ^ k)) := by
  intro n
  induction n with
  | zero => intro h; exact absurd h (by show ¬ m ≤ 0; omega)
  | succ n ih =>
    intro h
    rw [mx] at h
    rcases Nat.le_total (mx E s n) (if s.testBit n = true then E (dif s (2 ^ n)) else 0) with h1 | h1
    · rw [Nat.max_eq_right h1] at h
      cases hb : s.testBit n
      · rw [hb, if_neg (by decide)] at h; omega
      · rw [hb, if_pos rfl] at h
        exact ⟨n, by omega, hb, h⟩
    · rw [Nat.max_eq_left h1] at h
      obtain ⟨k, h2, h3, h4⟩ := ih h
      exact ⟨k, by omega, h3, h4⟩
def cz (b : Sb) (s : Nat) : Nat := if ld b s.testBit = 0 then 1 else 0
def evT (b : Sb) : Nat → Nat → Nat
  | 0, _ => 0
  | n + 1, s => if s = n then (if n = 0 then 0 else mx (evT b n) n 12 + cz b n) else evT b n s
def ev (b : Sb) (s : Nat) : Nat := evT b (s + 1) s
theorem evT_eq (b : Sb) {s : Nat} : ∀ n, s < n → evT b n s = ev b s := by
  intro n
  induction n with
  | zero => intro h; omega
  | succ n ih =>
    intro h
    by_cases e : s = n
    · subst e; rfl
    · rw [evT, if_neg e, ih (by omega)]
theorem ev_0 (b : Sb) : ev b 0 = 0 := rfl
theorem ev_s (b : Sb) {s : Nat} (h : ¬ s = 0) : ev b s = mx (ev b) s 12 + cz b s := by
  show (if s = s then (if s = 0 then 0 else mx (evT b s) s 12 + cz b s) else evT b s s) = _
  rw [if_pos rfl, if_neg h, mx_congr (fun k hk => evT_eq b s (del_lt hk))]
theorem cz_le (b : Sb) (s : Nat) : cz b s ≤ 1 := by unfold cz; split <;> decide
theorem mx_le {E : Nat → Nat} {s B : Nat} (h : ∀ k, s.testBit k = true → E (dif s (2 ^ k)) ≤ B) : ∀ n, mx E s n ≤ B := by
  intro n
  induction n with
  | zero => exact Nat.zero_le _
  | succ n ih =>
    rw [mx]
    apply Nat.max_le.mpr
    refine ⟨ih, ?_⟩
    cases hb : s.testBit n
    · exact Nat.zero_le _
    · exact h n hb
theorem ev_le (b : Sb) : ∀ s, ev b s ≤ s := by
  intro s
  induction s using Nat.strongRecOn with
  | ind s ih =>
    by_cases h0 : s = 0
    · subst h0; exact Nat.le_refl _
    · rw [ev_s b h0]
      have h1 := mx_le (E := ev b) (s := s) (B := s - 1) (fun k hk => by
        have h2 := del_lt hk
        have h3 := ih _ h2
        omega) 12
      have := cz_le b s
      omega
theorem ev_mono (b : Sb) : ∀ s, s < 4096 → ∀ r, Su r s → ev b r ≤ ev b s := by
  intro s
  induction s using Nat.strongRecOn with
  | ind s ih =>
    intro hs r hr
    by_cases e : r = s
    · subst e; exact Nat.le_refl _
    · obtain ⟨k, h1, h2⟩ := Su_ne hr e
      have hk := bit_lt (n := 12) hs h1
      have hl := del_lt h1
      have h3 := ih _ hl (by omega) r (del_in hr h2)
      have h4 := mx_ge (E := ev b) h1 12 hk
      have h5 := ev_s b (show ¬ s = 0 by omega)
      omega
def Evn (b : Sb) (o t : Nat) : Prop := 0 < o ∧ o < 64 ∧ 0 < t ∧ t < 64 ∧ Su o (OO b) ∧ Su t (TT b) ∧ sw b 6 t = sw b 0 o
def Rom (b : Sb) : Nat → Nat → Nat → Prop
  | 0, _, _ => True
  | n + 1, o, t => ∃ p q, Su p o ∧ Su q t ∧ Evn b p q ∧ ∃ i, i < 6 ∧ p.testBit i = true ∧ Rom b n (dif p (2 ^ i)) q
theorem Rp_mono {b : Sb} {n o t o' t' : Nat} (h : Rom b n o t) (h1 : Su o o') (h2 : Su t t') : Rom b n o' t' := by
  cases n with
  | zero => trivial
  | succ n =>
    obtain ⟨p, q, g1, g2, g3⟩ := h
    exact ⟨p, q, g1.trans h1, g2.trans h2, g3⟩
theorem cr_del {o t k : Nat} (ho : o < 64) (hk : k < 6) : dif (o ||| t * 64) (2 ^ k) = dif o (2 ^ k) ||| t * 64 := by
  have hl : dif o (2 ^ k) < 64 := Nat.lt_of_le_of_lt (Su_le (del_su o k)) ho
  apply Nat.eq_of_testBit_eq
  intro i
  rw [del_bit, cr_bit ho, cr_bit hl, del_bit]
  by_cases h : i < 6
  · rw [if_pos h, if_pos h]
  · rw [if_neg h, if_neg h, decide_eq_false (by omega : ¬ k = i)]; simp
theorem cr_del2 {o t j : Nat} (ho : o < 64) : dif (o ||| t * 64) (2 ^ (6 + j)) = o ||| dif t (2 ^ j) * 64 := by
  apply Nat.eq_of_testBit_eq
  intro i
  rw [del_bit, cr_bit ho, cr_bit ho, del_bit]
  by_cases h : i < 6
  · rw [if_pos h, if_pos h, decide_eq_false (by omega : ¬ 6 + j = i)]; simp
  · rw [if_neg h, if_neg h]
    congr 2
    apply decide_eq_decide.mpr
    omega
theorem cr_su {o t o' t' : Nat} (ho : o < 64) (ho' : o' < 64) (h1 : Su o o') (h2 : Su t t') : Su (o ||| t * 64) (o' ||| t' * 64) := fun i hi => by
  rw [cr_bit ho] at hi
  rw [cr_bit ho']
  by_cases h : i < 6
  · rw [if_pos h] at hi ⊢; exact h1 i hi
  · rw [if_neg h] at hi ⊢; exact h2 _ hi
theorem cz_cr {b : Sb} {o t : Nat} (ho : o < 64) : cz b (o ||| t * 64) = if sw b 6 t = sw b 0 o then 1 else 0 := by
  unfold cz
  rw [ld_sw ho]
  by_cases h : sw b 6 t = sw b 0 o
  · rw [if_pos h, if_pos (by omega)]
  · rw [if_neg h, if_neg (by omega)]
theorem cr_ne {o t : Nat} (h : 0 < o) : ¬ o ||| t * 64 = 0 := fun z => by
  have h1 : o ≤ o ||| t * 64 := Nat.left_le_or
  omega
theorem Rp_ev (b : Sb) : ∀ n o t, o < 64 → t < 64 → Rom b n o t → n ≤ ev b (o ||| t * 64) := by
  intro n
  induction n with
  | zero => intro o t _ _ _; exact Nat.zero_le _
  | succ n ih =>
    intro o t ho ht h
    obtain ⟨p, q, h1, h2, ⟨e1, e2, e3, e4, e5, e6, e7⟩, i, hi, hb, h3⟩ := h
    have hl : dif p (2 ^ i) < 64 := Nat.lt_of_le_of_lt (Su_le (del_su p i)) e2
    have g1 := ih _ _ hl e4 h3
    have g2 := ev_mono b _ (cr_lt2 ho ht) _ (cr_su e2 ho h1 h2)
    have hbit : (p ||| q * 64).testBit i = true := by rw [cr_bit e2, if_pos hi]; exact hb
    have g3 := mx_ge (E := ev b) hbit 12 (by omega)
    rw [cr_del e2 hi] at g3
    have g4 := ev_s b (cr_ne (t := q) e1)
    rw [cz_cr e2, if_pos e7] at g4
    omega
theorem sN_mono {g h : Nat → Nat} (hh : ∀ k, g k ≤ h k) : ∀ n, sN g n ≤ sN h n := by
  intro n
  induction n with
  | zero => exact Nat.le_refl _
  | succ n ih => rw [sN, sN]; have := hh n; omega
theorem sw_mono {b : Sb} {a x y : Nat} (h : Su x y) : sw b a x ≤ sw b a y := sN_mono (fun k => by
  show (if x.testBit k = true then wk b (a + k) else 0) ≤ (if y.testBit k = true then wk b (a + k) else 0)
  cases hx : x.testBit k
  · exact Nat.zero_le _
  · rw [h k hx]; exact Nat.le_refl _) 6
theorem sw_del {b : Sb} {a x k : Nat} (hk : k < 6) (h : x.testBit k = true) : sw b a x = sw b a (dif x (2 ^ k)) + wk b (a + k) := by
  unfold sw
  have g := sN_up (g := fun j => if (dif x (2 ^ k)).testBit j then wk b (a + j) else 0) (h := fun j => if x.testBit j then wk b (a + j) else 0) (i := k) (w := wk b (a + k)) (fun j hj => by
    show (if x.testBit j = true then _ else _) = (if (dif x (2 ^ k)).testBit j = true then _ else _)
    rw [del_bit, decide_eq_false (fun z => hj z.symm)]; simp) (by
    show (if x.testBit k = true then _ else _) = (if (dif x (2 ^ k)).testBit k = true then _ else _) + _
    rw [del_bit, decide_eq_true rfl, h]; simp) 6
  rw [if_pos hk] at g
  exact g
theorem sw_lt {b : Sb} (hO : OK b) {a x y k : Nat} (ha : a ≤ 6) (hk : k < 6) (h : Su x y) (h1 : y.testBit k = true) (h2 : x.testBit k = false) : sw b a x < sw b a y := by
  have g1 := sw_mono (b := b) (a := a) (del_in h h2)
  have g2 := sw_del (b := b) (a := a) hk h1
  have g3 := (wk_bd hO (k := a + k) (by omega)).1
  omega
theorem sw_pos {b : Sb} (hO : OK b) {a x : Nat} (ha : a ≤ 6) (hx : x < 64) (h : ¬ x = 0) : 0 < sw b a x := by
  obtain ⟨k, h1, h2⟩ := Su_ne (x := 0) (y := x) (fun i hi => by rw [Nat.zero_testBit] at hi; cases hi) (fun z => h z.symm)
  have := sw_lt hO (a := a) ha (bit_lt (n := 6) hx h1) (fun i hi => by rw [Nat.zero_testBit] at hi; cases hi) h1 h2
  omega
theorem ex_bit {x : Nat} (h : ¬ x = 0) : ∃ k, x.testBit k = true := by
  obtain ⟨k, h1, _⟩ := Su_ne (x := 0) (y := x) (fun i hi => by rw [Nat.zero_testBit] at hi; cases hi) (fun z => h z.symm)
  exact ⟨k, h1⟩
theorem ev_Rp {b : Sb} (hO : OK b) : ∀ s o t n, o < 64 → t < 64 → s = (o ||| t * 64) → Su o (OO b) → Su t (TT b) → n ≤ ev b s → Rom b n o t := by
  intro s
  induction s using Nat.strongRecOn with
  | ind s ih =>
    intro o t n ho ht hs h1 h2 hn
    cases n with
    | zero => trivial
    | succ m =>
      have hs0 : ¬ s = 0 := fun z => by rw [z, ev_0] at hn; omega
      have hev := ev_s b hs0
      -- a step down
      have down : ∀ c, 0 < c → c ≤ mx (ev b) s 12 → (∃ k, k < 6 ∧ o.testBit k = true ∧ Rom b c (dif o (2 ^ k)) t) ∨ ∃ j, j < 6 ∧ t.testBit j = true ∧ Rom b c o (dif t (2 ^ j)) := by
        intro c hc hcm
        obtain ⟨k, k1, k2, k3⟩ := mx_ex hc 12 hcm
        have hl := del_lt k2
        by_cases h6 : k < 6
        · have kb : o.testBit k = true := by
            rw [hs, cr_bit ho, if_pos h6] at k2; exact k2
          refine Or.inl ⟨k, h6, kb, ?_⟩
          have hd : dif o (2 ^ k) < 64 := Nat.lt_of_le_of_lt (Su_le (del_su o k)) ho
          exact ih _ hl (dif o (2 ^ k)) t c hd ht (by rw [hs, cr_del ho h6]) ((del_su o k).trans h1) h2 k3
        · obtain ⟨j, rfl⟩ : ∃ j, k = 6 + j := ⟨k - 6, by omega⟩
          have kb : t.testBit j = true := by
            rw [hs, cr_bit ho, if_neg h6, show 6 + j - 6 = j by omega] at k2; exact k2
          refine Or.inr ⟨j, by omega, kb, ?_⟩
          have hd : dif t (2 ^ j) < 64 := Nat.lt_of_le_of_lt (Su_le (del_su t j)) ht
          exact ih _ hl o (dif t (2 ^ j)) c ho hd (by rw [hs, cr_del2 ho]) h1 ((del_su t j).trans h2) k3
      rw [hs, cz_cr ho, ← hs] at hev
      by_cases hz : sw b 6 t = sw b 0 o
      · rw [if_pos hz] at hev
        have o0 : ¬ o = 0 := fun z => by
          rw [z, sw_0] at hz
          have t0 : t = 0 := Classical.byContradiction fun q => by
            have := sw_pos hO (a := 6) (Nat.le_refl _) ht q
            omega
          rw [z, t0] at hs
          exact hs0 hs
        have t0 : ¬ t = 0 := fun z => by
          rw [z, sw_0] at hz
          have := sw_pos hO (a := 0) (by omega) ho o0
          omega
        have hE : Evn b o t := ⟨by omega, ho, by omega, ht, h1, h2, hz⟩
        cases m with
        | zero =>
          obtain ⟨k, hk⟩ := ex_bit o0
          exact ⟨o, t, Su.refl _, Su.refl _, hE, k, bit_lt (n := 6) ho hk, hk, trivial⟩
        | succ m =>
          rcases down (m + 1) (by omega) (by omega) with ⟨k, k1, k2, k3⟩ | ⟨j, j1, j2, j3⟩
          · exact ⟨o, t, Su.refl _, Su.refl _, hE, k, k1, k2, k3⟩
          · obtain ⟨p, q, g1, g2, g3, g4⟩ := j3
            have hqt : Su q t := g2.trans (del_su t j)
            by_cases e : p = o
            · have hqj : q.testBit j = false := by
                cases hb : q.testBit j
                · rfl
                · have := g2 j hb
                  rw [del_bit, decide_eq_true rfl] at this
                  simp at this
              have := sw_lt hO (a := 6) (Nat.le_refl _) j1 hqt j2 hqj
              have e7 := g3.2.2.2.2.2.2
              rw [e] at e7
              omega
            · obtain ⟨i, i1, i2⟩ := Su_ne g1 e
              exact ⟨o, t, Su.refl _, Su.refl _, hE, i, bit_lt (n := 6) ho i1, i1, p, q, del_in g1 i2, hqt, g3, g4⟩
      · rw [if_neg hz] at hev
        rcases down (m + 1) (by omega) (by omega) with ⟨k, k1, k2, k3⟩ | ⟨j, j1, j2, j3⟩
        · exact Rp_mono k3 (del_su o k) (Su.refl _)
        · exact Rp_mono j3 (Su.refl _) (del_su t j)
def nb6 (o : Nat) : Nat := sN (fun k => (o.testBit k).toNat) 6
theorem nb6_le (o : Nat) : nb6 o ≤ 6 := by
  have := sN_le (g := fun k => (o.testBit k).toNat) (B := 1) (fun k => by cases o.testBit k <;> decide) 6
  unfold nb6
  omega
theorem nb6_del {x k : Nat} (hk : k < 6) (h : x.testBit k = true) : nb6 x = nb6 (dif x (2 ^ k)) + 1 := by
  unfold nb6
  have g := sN_up (g := fun j => ((dif x (2 ^ k)).testBit j).toNat) (h := fun j => (x.testBit j).toNat) (i := k) (w := 1) (fun j hj => by
    show (x.testBit j).toNat = ((dif x (2 ^ k)).testBit j).toNat
    rw [del_bit, decide_eq_false (fun z => hj z.symm)]; simp) (by
    show (x.testBit k).toNat = ((dif x (2 ^ k)).testBit k).toNat + 1
    rw [del_bit, decide_eq_true rfl, h]; rfl) 6
  rw [if_pos hk] at g
  exact g
theorem nb6_mono {x y : Nat} (h : Su x y) : nb6 x ≤ nb6 y := sN_mono (fun k => by
  show (x.testBit k).toNat ≤ (y.testBit k).toNat
  cases hx : x.testBit k
  · exact Nat.zero_le _
  · rw [h k hx]; exact Nat.le_refl _) 6
theorem Rp_6 (b : Sb) : ∀ n o t, Rom b n o t → n ≤ nb6 o := by
  intro n
  induction n with
  | zero => intro o t _; exact Nat.zero_le _
  | succ n ih =>
    intro o t h
    obtain ⟨p, q, h1, h2, h3, i, hi, hb, h4⟩ := h
    have g1 := ih _ _ h4
    have g2 := nb6_del hi hb
    have g3 := nb6_mono h1
    omega
theorem OO_lt (b : Sb) : OO b < 64 := bs_lt _ 6
theorem TT_lt (b : Sb) : TT b < 64 := bs_lt _ 6
theorem OP_eq (b : Sb) : bs (op b) 12 = OO b ||| TT b * 64 := by
  have h := or_md (s := bs (op b) 12) (bs_lt _ 12)
  rw [bs_mod, bs_div] at h
  exact h.symm
abbrev eL (b : Sb) : Nat := ev b (OO b ||| TT b * 64)
theorem eL_Rp {b : Sb} (hO : OK b) (n : Nat) : Rom b n (OO b) (TT b) ↔ n ≤ eL b :=
  ⟨fun h => Rp_ev b n _ _ (OO_lt b) (TT_lt b) h, fun h => ev_Rp hO _ _ _ n (OO_lt b) (TT_lt b) rfl (Su.refl _) (Su.refl _) h⟩
theorem eL_6 {b : Sb} (hO : OK b) : eL b ≤ 6 := Nat.le_trans (Rp_6 b _ _ _ ((eL_Rp hO (eL b)).mpr (Nat.le_refl _))) (nb6_le _)
/-- one round of the class's room -/
theorem Rp_step {b : Sb} {n o t : Nat} (ho : o < 64) (ht : t < 64) : Rom b (n + 1) o t ↔ ∃ q, q < 64 ∧ Su q t ∧ ((∃ i, i < 6 ∧ o.testBit i = true ∧ Rom b (n + 1) (dif o (2 ^ i)) q) ∨ (Evn b o q ∧ ∃ i, i < 6 ∧ o.testBit i = true ∧ Rom b n (dif o (2 ^ i)) q)) := by
  constructor
  · rintro ⟨p, q, h1, h2, h3, h4⟩
    have hq : q < 64 := h3.2.2.2.1
    refine ⟨q, hq, h2, ?_⟩
    by_cases e : p = o
    · subst e; exact Or.inr ⟨h3, h4⟩
    · obtain ⟨k, k1, k2⟩ := Su_ne h1 e
      exact Or.inl ⟨k, bit_lt (n := 6) ho k1, k1, p, q, del_in h1 k2, Su.refl _, h3, h4⟩
  · rintro ⟨q, hq, h2, ⟨i, i1, i2, i3⟩ | ⟨h3, h4⟩⟩
    · exact Rp_mono i3 (del_su o i) h2
    · exact ⟨o, q, Su.refl _, h2, h3, h4⟩
