/-! worlds -/
def wo (v : Nat) : Nat := (v - 1) / 6
def wr (v : Nat) : Nat := (v - 1) % 6
theorem wr_lt (v : Nat) : wr v < 6 := Nat.mod_lt _ (by decide)
theorem wo_lt {v : Nat} (h : v < 73) : wo v < 12 := by unfold wo; omega
def rk (b : Sb) (v k : Nat) : Nat := if ¬ v = 0 ∧ wo v = k then bw b (wr v) else wk b k
def ew (b : Sb) (v s : Nat) : Int := sm (fun k => if (s.testBit k && th b k) then sgn k (rk b v k) else 0) 12
def oks (b : Sb) (v i : Nat) : Bool := decide (ew b v (bc b i) = 0) == be b i
def aF (b : Sb) (v : Nat) : Nat → Nat → Bool
  | 0, _ => true
  | r + 1, i => oks b v i && aF b v r (i + 1)
def isW (b : Sb) (v : Nat) : Bool := (decide (v = 0) || (th b (wo v) && !decide (br b (wo v) = wr v))) && aF b v (bn b) 0
abbrev cw (b : Sb) (v : Nat) : Nat := cnt (isW b) v
def wdN (f : Nat → Bool) : Nat → Nat → Nat
  | 0, _ => 0
  | n + 1, i => if cnt f n = i ∧ f n = true then n else wdN f n i
abbrev wd (b : Sb) (i : Nat) : Nat := wdN (isW b) 73 i
theorem cnt_mono (f : Nat → Bool) {m : Nat} : ∀ d, cnt f m ≤ cnt f (m + d) := by
  intro d
  induction d with
  | zero => exact Nat.le_refl _
  | succ d ih => rw [← Nat.add_assoc, cnt]; omega
theorem wdN_at {f : Nat → Bool} {v : Nat} (hf : f v = true) : ∀ n, v < n → wdN f n (cnt f v) = v := by
  intro n
  induction n with
  | zero => intro h; omega
  | succ n ih =>
    intro h
    rw [wdN]
    by_cases e : v = n
    · subst e; rw [if_pos ⟨rfl, hf⟩]
    · rw [if_neg (fun z => ?_)]
      · exact ih (by omega)
      · have := cnt_mono f (m := v + 1) (n - (v + 1))
        rw [show v + 1 + (n - (v + 1)) = n by omega, cnt, hf] at this
        have := z.1
        simp at *
        omega
theorem wdN_lt (f : Nat → Bool) (n i : Nat) : wdN f n i ≤ n := by
  induction n with
  | zero => exact Nat.le_refl _
  | succ n ih =>
    rw [wdN]
    split <;> omega
theorem wd_at {b : Sb} {v : Nat} (hf : isW b v = true) (hv : v < 73) : wd b (cw b v) = v := wdN_at hf 73 hv
theorem wdN_lt' (f : Nat → Bool) (n i : Nat) (hn : 0 < n) : wdN f n i < n := by
  obtain ⟨m, rfl⟩ : ∃ m, n = m + 1 := ⟨n - 1, by omega⟩
  rw [wdN]
  split
  · omega
  · have := wdN_lt f m i; omega
theorem wd_lt (b : Sb) (i : Nat) : wd b i < 73 := wdN_lt' _ _ _ (by decide)
theorem cw_blk {b : Sb} (hO : OK b) {k : Nat} (hk : k < 12) : cw b (1 + 6 * k + 6) ≤ cw b (1 + 6 * k) + 5 := by
  have hr := hO.2.2.1 k hk
  have hz : isW b (1 + 6 * k + br b k) = false := by
    unfold isW
    have e1 : wo (1 + 6 * k + br b k) = k := by unfold wo; omega
    have e2 : wr (1 + 6 * k + br b k) = br b k := by unfold wr; omega
    rw [e1, e2, decide_eq_true rfl, decide_eq_false (by omega : ¬ 1 + 6 * k + br b k = 0)]
    simp
  have t : ∀ x : Bool, x.toNat ≤ 1 := by intro x; cases x <;> decide
  show cnt (isW b) (1 + 6 * k + 5 + 1) ≤ cnt (isW b) (1 + 6 * k) + 5
  rw [cnt, show 1 + 6 * k + 5 = 1 + 6 * k + 4 + 1 from rfl, cnt, show 1 + 6 * k + 4 = 1 + 6 * k + 3 + 1 from rfl, cnt, show 1 + 6 * k + 3 = 1 + 6 * k + 2 + 1 from rfl, cnt, show 1 + 6 * k + 2 = 1 + 6 * k + 1 + 1 from rfl, cnt, cnt]
  have t0 := t (isW b (1 + 6 * k))
  have t1 := t (isW b (1 + 6 * k + 1))
  have t2 := t (isW b (1 + 6 * k + 1 + 1))
  have t3 := t (isW b (1 + 6 * k + 1 + 1 + 1))
  have t4 := t (isW b (1 + 6 * k + 1 + 1 + 1 + 1))
  have t5 := t (isW b (1 + 6 * k + 1 + 1 + 1 + 1 + 1))
  generalize hg : br b k = j at hr hz
  match j, hr with
  | 0, _ => rw [show 1 + 6 * k + 0 = 1 + 6 * k from rfl] at hz; rw [hz] at t0 ⊢; simp only [Bool.toNat_false]; omega
  | 1, _ => rw [hz] at t1 ⊢; simp only [Bool.toNat_false]; omega
  | 2, _ => rw [show 1 + 6 * k + 2 = 1 + 6 * k + 1 + 1 from rfl] at hz; rw [hz] at t2 ⊢; simp only [Bool.toNat_false]; omega
  | 3, _ => rw [show 1 + 6 * k + 3 = 1 + 6 * k + 1 + 1 + 1 from rfl] at hz; rw [hz] at t3 ⊢; simp only [Bool.toNat_false]; omega
  | 4, _ => rw [show 1 + 6 * k + 4 = 1 + 6 * k + 1 + 1 + 1 + 1 from rfl] at hz; rw [hz] at t4 ⊢; simp only [Bool.toNat_false]; omega
  | 5, _ => rw [show 1 + 6 * k + 5 = 1 + 6 * k + 1 + 1 + 1 + 1 + 1 from rfl] at hz; rw [hz] at t5 ⊢; simp only [Bool.toNat_false]; omega
theorem cw_all {b : Sb} (hO : OK b) : ∀ k, k ≤ 12 → cw b (1 + 6 * k) ≤ 1 + 5 * k := by
  intro k
  induction k with
  | zero => intro _; exact cnt_le _ _
  | succ k ih =>
    intro hk
    have h1 := ih (by omega)
    have h2 := cw_blk hO (k := k) (by omega)
    rw [show 1 + 6 * (k + 1) = 1 + 6 * k + 6 by omega]
    omega
theorem cw_61 {b : Sb} (hO : OK b) {v : Nat} (hv : v ≤ 73) : cw b v ≤ 61 := by
  have h := cnt_mono (isW b) (m := v) (73 - v)
  rw [show v + (73 - v) = 73 by omega] at h
  have := cw_all hO 12 (Nat.le_refl _)
  have : cnt (isW b) 73 ≤ 61 := this
  show cnt (isW b) v ≤ 61
  omega
theorem cw_60 {b : Sb} (hO : OK b) {v : Nat} (hv : v < 73) (hf : isW b v = true) : cw b v ≤ 60 := by
  have h := cw_61 hO (v := v + 1) (by omega)
  have h2 : cw b (v + 1) = cw b v + (isW b v).toNat := rfl
  rw [hf] at h2
  have : true.toNat = 1 := rfl
  omega
theorem sm_up {g h : Nat → Int} {i : Nat} {w : Int} (h1 : ∀ j, j ≠ i → h j = g j) (h2 : h i = g i + w) : ∀ n, sm h n = sm g n + (if i < n then w else 0) := by
  intro n
  induction n with
  | zero => simp [sm]
  | succ n ih =>
    rw [sm, sm, ih]
    by_cases e : n = i
    · subst e
      rw [h2, if_neg (by omega), if_pos (by omega)]; omega
    · rw [h1 n e]
      by_cases q : i < n
      · rw [if_pos q, if_pos (by omega)]; omega
      · rw [if_neg q, if_neg (by omega)]; omega
theorem ew_0 (b : Sb) (s : Nat) : ew b 0 s = ld b (fun k => s.testBit k && th b k) := sm_congr (fun k _ => by
  have : rk b 0 k = wk b k := if_neg (fun z => z.1 rfl)
  rw [this])
theorem ew_v {b : Sb} {v : Nat} (h0 : ¬ v = 0) (hv : v < 73) (ht : th b (wo v) = true) (s : Nat) : ew b v s = ld b (fun k => s.testBit k && th b k) + (if s.testBit (wo v) then sgn (wo v) ((bw b (wr v) : Int) - wk b (wo v)) else 0) := by
  unfold ew ld
  have h := sm_up (g := fun k => if (s.testBit k && th b k) then sgn k (wk b k) else 0) (h := fun k => if (s.testBit k && th b k) then sgn k (rk b v k) else 0) (i := wo v) (w := if s.testBit (wo v) then sgn (wo v) ((bw b (wr v) : Int) - wk b (wo v)) else 0) (fun j hj => by
    have : rk b v j = wk b j := if_neg (fun z => hj z.2.symm)
    show (if (s.testBit j && th b j) = true then sgn j (rk b v j) else 0) = _
    rw [this]) (by
    have : rk b v (wo v) = bw b (wr v) := if_pos ⟨h0, rfl⟩
    show (if (s.testBit (wo v) && th b (wo v)) = true then sgn (wo v) (rk b v (wo v)) else 0) = (if (s.testBit (wo v) && th b (wo v)) = true then sgn (wo v) (wk b (wo v)) else 0) + _
    rw [this, ht, Bool.and_true]
    by_cases q : s.testBit (wo v) = true
    · rw [if_pos q, if_pos q, if_pos q]
      unfold sgn
      split <;> omega
    · rw [if_neg q, if_neg q, if_neg q]; rfl) 12
  rw [if_pos (wo_lt hv)] at h
  exact h
theorem rk_bd {b : Sb} (hO : OK b) (v : Nat) {k : Nat} (hk : k < 12) : 1 ≤ rk b v k ∧ rk b v k ≤ 99 := by
  unfold rk
  split
  · exact hO.2.2.2.2 _ (wr_lt v)
  · exact wk_bd hO hk
theorem ew_z {b : Sb} (hO : OK b) (v s : Nat) : iI (ew b v s) = nI 0 ↔ ew b v s = 0 := by
  have h := sm_bd (g := fun k => if (s.testBit k && th b k) then sgn k (rk b v k) else 0) (n := 12) (fun k hk => by
    have := rk_bd hO v hk
    show -99 ≤ (if (s.testBit k && th b k) = true then sgn k (rk b v k) else 0) ∧ _
    unfold sgn
    split
    · split <;> omega
    · omega)
  have h2 : -1188 ≤ ew b v s ∧ ew b v s ≤ 1188 := by unfold ew; omega
  exact iI_zn (by omega) (by omega)
def whoI (v : Nat) : Int32 := if v = 0 then mI 1 else nI (wo v)
def hadI (v : Nat) : Int32 := if v = 0 then nI 0 else nI (wr v)
def wldI (v : Nat) : Int32 := if v = 0 then mI 1 else nI (v - 1)
def moI (b : Sb) (v : Nat) : Int := if v = 0 then 0 else (bw b (wr v) : Int) - wk b (wo v)
theorem nI_m1' {k : Nat} (hk : k < 2 ^ 31) : ¬ nI k = mI 1 := fun z => by
  have := congrArg Int32.toInt z
  rw [nI_toInt hk, m1_toInt] at this
  omega
def CX (b : Sb) (M : Mm) : Prop := XK 1 b M ∧ XS 1 b M ∧ ∀ i, i < bn b → M.1 23 i = iI (ld b (fun k => (bc b i).testBit k && th b k))
def F20 (M M' : Mm) : Prop := ∀ a, ¬ (20 ≤ a ∧ a ≤ 23) → M'.1 a = M.1 a
theorem F20.refl (M : Mm) : F20 M M := fun _ _ => rfl
theorem F20.trans {A B C : Mm} (h : F20 A B) (g : F20 B C) : F20 A C := fun a ha => by rw [g a ha, h a ha]
theorem CX_fr {b : Sb} {M M' : Mm} (h : ∀ a, ¬ (20 ≤ a ∧ a ≤ 22) → M'.1 a = M.1 a) (hC : CX b M) : CX b M' :=
  ⟨XK_fr (fun a h1 h2 => h a (by omega)) hC.1, XS_fr (h 1 (by decide)) (h 5 (by decide)) hC.2.1, fun i hi => by rw [h 23 (by decide)]; exact hC.2.2 i hi⟩
theorem af_83 {b : Sb} {v i : Nat} {M : Mm} (hO : OK b) (hC : CX b M) (hOS : OS b) (hi : i < bn b) (nx : Int32 → Int32 → Int32 → Int32 → Mm → Option (Unit × Mm)) (v2 v3 v4 : Int32) : fX6_addIfFits_b83 nx 1 v2 v3 v4 (nI i) (iI (ew b v (bc b i))) M = if oks b v i then nx v2 v3 v4 (nI (i + 1)) M else some ((), M) := by
  unfold fX6_addIfFits_b83 fX6_addIfFits_b93 fX6_addIfFits_b111 oks
  obtain ⟨_, _, e, h3, h4, h5⟩ := hC.2.1
  have h8 := hOS.1
  rw [h3, jbit (by omega) (by omega), h5 i hi, ib1, ib1, nI_1']
  have ez := ew_z hO v (bc b i)
  by_cases q : ew b v (bc b i) = 0
  · rw [if_pos (ez.mpr q), decide_eq_true q]
    cases be b i
    · rw [if_neg (show ¬ false = true by decide), if_neg (show ¬ nI 1 = nI 0 by decide), if_neg (show ¬ (true == false) = true by decide)]
    · rw [if_pos (show true = true from rfl), if_pos (show nI 1 = nI 1 from rfl), if_pos (show (true == true) = true from rfl)]
  · rw [if_neg (fun z => q (ez.mp z)), decide_eq_false q]
    cases be b i
    · rw [if_neg (show ¬ false = true by decide), if_pos (show nI 0 = nI 0 from rfl), if_pos (show (false == false) = true from rfl)]
    · rw [if_pos (show true = true from rfl), if_neg (show ¬ nI 0 = nI 1 by decide), if_neg (show ¬ (false == true) = true by decide)]
theorem af_26 {b : Sb} {v : Nat} {M : Mm} (hO : OK b) (hC : CX b M) (hOS : OS b) (hv : v < 73) (ht : ¬ v = 0 → th b (wo v) = true) : ∀ f r i, i + r = bn b → r < f → fX6_addIfFits_b26 1 f (whoI v) (hadI v) (iI (moI b v)) (nI i) M = if aF b v r i then fX6_addIfFits_b121 1 (whoI v) (hadI v) M else some ((), M) := by
  intro f
  have h8 := hOS.1
  induction f with
  | zero => intro r i _ h; omega
  | succ f ih =>
    intro r i hi hr
    rw [fX6_addIfFits_b26, hC.2.1.1]
    cases r with
    | zero => rw [if_pos (nI_le (by omega) (by omega))]; rfl
    | succ r =>
      have hib : i < bn b := by omega
      have hi8 : inb (nI i) 8 = true := inb_nI (by omega) (by decide)
      have key : fX6_addIfFits_b83 (fX6_addIfFits_b26 1 f) 1 (whoI v) (hadI v) (iI (moI b v)) (nI i) (iI (ew b v (bc b i))) M = if aF b v (r + 1) i then fX6_addIfFits_b121 1 (whoI v) (hadI v) M else some ((), M) := by
        rw [af_83 hO hC hOS hib, ih r (i + 1) (by omega) (by omega), aF]
        cases oks b v i <;> rfl
      have hb := hOS.2 i hib
      rw [if_neg (nI_ge hib (by omega)), gd_of hi8, gd_of hi8, nI_clamp (by omega), hC.2.2 i hib, hC.2.1.2.1 i hib]
      by_cases q : v = 0
      · have e1 : whoI v = mI 1 := if_pos q
        rw [if_pos e1]
        rw [q, ew_0] at key
        rw [q]; exact key
      · have e1 : whoI v = nI (wo v) := if_neg q
        have e2 : moI b v = (bw b (wr v) : Int) - wk b (wo v) := if_neg q
        have hw := wo_lt hv
        rw [if_neg (by rw [e1]; exact nI_m1' (by omega))]
        unfold fX6_addIfFits_b80
        have eb : (jshr (nI (bc b i)) (whoI v) &&& nI 1) = nI ((bc b i).testBit (wo v)).toNat := by rw [e1, jbit (by omega) (by omega)]
        have e6 : nI 6 ≤ whoI v ↔ ¬ wo v < 6 := by rw [e1, nI_leI (by decide) (by omega)]; omega
        rw [eb, ib1]
        simp only [e6]
        rw [ew_v q hv (ht q)] at key
        cases hb2 : (bc b i).testBit (wo v)
        · rw [if_neg (by decide)]
          rw [hb2, if_neg (by decide), Int.add_zero] at key
          exact key
        · rw [if_pos rfl]
          rw [hb2, if_pos rfl] at key
          unfold sgn at key
          by_cases q6 : wo v < 6
          · rw [if_neg (fun z => z q6), iI_add]
            rw [if_pos q6, ← e2] at key
            exact key
          · rw [if_pos q6, iI_neg, iI_add]
            rw [if_neg q6, ← e2] at key
            exact key
theorem af_c {b : Sb} {v : Nat} {M : Mm} (hO : OK b) (hC : CX b M) (hOS : OS b) (hv : v < 73) (ht : ¬ v = 0 → th b (wo v) = true) : fX6_addIfFits 1 (whoI v) (hadI v) M = if aF b v (bn b) 0 then fX6_addIfFits_b121 1 (whoI v) (hadI v) M else some ((), M) := by
  have h := af_26 hO hC hOS hv ht fu (bn b) 0 (by omega) (by have := hOS.1; have : fu = 5000 := rfl; omega)
  unfold fX6_addIfFits
  by_cases q : v = 0
  · have e1 : whoI v = mI 1 := if_pos q
    have e2 : moI b v = 0 := if_pos q
    rw [e2] at h
    rw [if_pos e1]; exact h
  · have e1 : whoI v = nI (wo v) := if_neg q
    have e2 : moI b v = (bw b (wr v) : Int) - wk b (wo v) := if_neg q
    have e3 : hadI v = nI (wr v) := if_neg q
    have hw := wo_lt hv
    have hr := wr_lt v
    have ei : inb (hadI v) 6 = true := by rw [e3]; exact inb_nI hr (by decide)
    have ew1 : fX0_worth 1 (whoI v) M = some (nI (wk b (wo v)), M) := by rw [e1]; exact worth_k hC.1 hO hw
    have em : M.1 (1 + 3) (hadI v).toNatClampNeg - nI (wk b (wo v)) = iI (moI b v) := by
      rw [e3, nI_clamp (by omega), hC.1.2.2.2.2 _ hr, e2, Int32.sub_eq_add_neg, iI_nI, iI_nI, iI_neg, iI_add]; rfl
    rw [if_neg (by rw [e1]; exact nI_m1' (by omega)), gd_of ei, ew1, bd_s, em]
    exact h
def WX (b : Sb) (v : Nat) (M : Mm) : Prop := M.1 20 0 = nI (cw b v) ∧ ∀ i, i < cw b v → M.1 21 i = whoI (wd b i) ∧ M.1 22 i = hadI (wd b i)
theorem WX_no {b : Sb} {v : Nat} {M : Mm} (h : WX b v M) (hf : isW b v = false) : WX b (v + 1) M := by
  have e : cw b (v + 1) = cw b v := by show cnt (isW b) v + (isW b v).toNat = _; rw [hf]; rfl
  unfold WX
  rw [e]; exact h
theorem WX_yes {b : Sb} {v : Nat} {M : Mm} (hO : OK b) (hv : v < 73) (h : WX b v M) (hf : isW b v = true) : ∃ M', fX6_addIfFits_b121 1 (whoI v) (hadI v) M = some ((), M') ∧ WX b (v + 1) M' ∧ ∀ a, ¬ (20 ≤ a ∧ a ≤ 22) → M'.1 a = M.1 a := by
  have e : cw b (v + 1) = cw b v + 1 := by show cnt (isW b) v + (isW b v).toNat = _; rw [hf]; rfl
  have h60 := cw_60 hO hv hf
  have hw := wd_at hf hv
  unfold fX6_addIfFits_b121
  rw [sI_n (by decide), sI_n (by decide), sI_n (by decide), h.1, if_neg (nI_ge (by omega) (by decide)), gd_of (inb_nI (by omega) (by decide)), gd_of (inb_nI (by omega) (by decide)), nI_clamp (by omega), nI_1']
  refine ⟨_, rfl, ⟨by rw [sI_s, e], fun i hi => ?_⟩, fun a ha => by rw [sI_n (by omega), sI_n (by omega), sI_n (by omega)]⟩
  rw [sI_n (show 21 ≠ 20 by decide), sI_n (show 21 ≠ 22 by decide), sI_n (show 22 ≠ 20 by decide)]
  by_cases q : i = cw b v
  · subst q
    rw [sI_s, sI_s, hw]
    exact ⟨rfl, rfl⟩
  · rw [sI_j _ q, sI_j _ q, sI_n (show 22 ≠ 21 by decide)]
    rw [e] at hi
    exact h.2 i (by omega)
theorem add_v {b : Sb} {v : Nat} {M : Mm} (hO : OK b) (hC : CX b M) (hOS : OS b) (hv : v < 73) (hp : v = 0 ∨ (th b (wo v) = true ∧ ¬ br b (wo v) = wr v)) (h : WX b v M) : ∃ M', fX6_addIfFits 1 (whoI v) (hadI v) M = some ((), M') ∧ WX b (v + 1) M' ∧ ∀ a, ¬ (20 ≤ a ∧ a ≤ 22) → M'.1 a = M.1 a := by
  rw [af_c hO hC hOS hv (fun z => (hp.resolve_left z).1)]
  have e : isW b v = aF b v (bn b) 0 := by
    unfold isW
    rcases hp with hp | hp
    · rw [decide_eq_true hp, Bool.true_or, Bool.true_and]
    · rw [hp.1, decide_eq_false hp.2]; simp
  cases ha : aF b v (bn b) 0
  · exact ⟨M, rfl, WX_no h (by rw [e, ha]), fun _ _ => rfl⟩
  · exact WX_yes hO hv h (by rw [e, ha])
theorem fi_54 {b : Sb} {k : Nat} (hO : OK b) (hOS : OS b) (hk : k < 12) (nx : Int32 → Mm → Option (Unit × Mm)) : ∀ f r j M, j + r = 6 → r < f → CX b M → WX b (1 + 6 * k + j) M → ∃ M', fX6_find_b54 nx 1 f (nI k) (nI j) M = nx (nI (k + 1)) M' ∧ WX b (1 + 6 * (k + 1)) M' ∧ CX b M' ∧ F20 M M' := by
  intro f
  induction f with
  | zero => intro r j M _ h; omega
  | succ f ih =>
    intro r j M hj hr hC hW
    rw [fX6_find_b54]
    cases r with
    | zero =>
      rw [if_pos (nI_le (by omega) (by omega)), nI_1']
      exact ⟨M, rfl, by rw [show 1 + 6 * (k + 1) = 1 + 6 * k + j by omega]; exact hW, hC, F20.refl M⟩
    | succ r =>
      have e1 : wo (1 + 6 * k + j) = k := by unfold wo; omega
      have e2 : wr (1 + 6 * k + j) = j := by unfold wr; omega
      have hv : 1 + 6 * k + j < 73 := by omega
      have hne : ¬ 1 + 6 * k + j = 0 := by omega
      have ew1 : whoI (1 + 6 * k + j) = nI k := by unfold whoI; rw [if_neg hne, e1]
      have ew2 : hadI (1 + 6 * k + j) = nI j := by unfold hadI; rw [if_neg hne, e2]
      have hbr := hO.2.2.1 k hk
      rw [if_neg (nI_ge (by omega) (by decide)), isThere_k hC.1 hO hk, bd_s, ib0, gd_of (inb_nI hk (by decide)), nI_clamp (by omega), hC.1.2.2.1 k hk, nI_1']
      have er : nI (br b k) = nI j ↔ br b k = j := nI_eq (by omega) (by omega)
      simp only [er]
      have no : (th b k = false ∨ br b k = j) → ∃ M', fX6_find_b54 nx 1 f (nI k) (nI (j + 1)) M = nx (nI (k + 1)) M' ∧ WX b (1 + 6 * (k + 1)) M' ∧ CX b M' ∧ F20 M M' := by
        intro hno
        have hf : isW b (1 + 6 * k + j) = false := by
          unfold isW
          rw [e1, e2, decide_eq_false hne]
          rcases hno with h | h
          · rw [h]; simp
          · rw [decide_eq_true h]; simp
        exact ih r (j + 1) M (by omega) (by omega) hC (WX_no hW hf)
      cases ht : th b k
      · exact no (Or.inl ht)
      · rw [if_pos rfl]
        by_cases q : br b k = j
        · rw [if_pos q]; exact no (Or.inr q)
        · rw [if_neg q]
          obtain ⟨M1, m1, w1, f1⟩ := add_v hO hC hOS hv (Or.inr ⟨by rw [e1]; exact ht, by rw [e1, e2]; exact q⟩) hW
          rw [ew1, ew2] at m1
          obtain ⟨M2, m2, w2, c2, f2⟩ := ih r (j + 1) M1 (by omega) (by omega) (CX_fr f1 hC) w1
          rw [m1, bd_s]
          exact ⟨M2, m2, w2, c2, fun a ha => by rw [f2 a ha, f1 a (by omega)]⟩
theorem fi_46 {b : Sb} (hO : OK b) (hOS : OS b) : ∀ f k M, k ≤ 12 → 12 < k + f → CX b M → WX b (1 + 6 * k) M → ∃ M', fX6_find_b46 1 f (nI k) M = some ((), M') ∧ WX b 73 M' ∧ CX b M' ∧ F20 M M' := by
  intro f
  induction f with
  | zero => intro k M h1 h2; omega
  | succ f ih =>
    intro k M h1 h2 hC hW
    rw [fX6_find_b46]
    by_cases hk : k = 12
    · subst hk
      rw [if_pos (by decide)]
      exact ⟨M, rfl, hW, hC, F20.refl M⟩
    · have hk' : k < 12 := by omega
      obtain ⟨M1, m1, w1, c1, f1⟩ := fi_54 hO hOS hk' (fX6_find_b46 1 f) fu 6 0 M (by omega) (by decide) hC hW
      obtain ⟨M2, m2, w2, c2, f2⟩ := ih (k + 1) M1 (by omega) (by omega) c1 w1
      rw [if_neg (nI_ge hk' (by decide)), m1, m2]
      exact ⟨M2, rfl, w2, c2, f1.trans f2⟩
theorem fi_2 {b : Sb} (hO : OK b) (hOS : OS b) : ∀ f i M, i ≤ bn b → bn b < i + f → XK 1 b M → XS 1 b M → (∀ j, j < i → M.1 23 j = iI (ld b (fun k => (bc b j).testBit k && th b k))) → ∃ M', fX6_find_b2 1 f (nI i) M = some ((), M') ∧ WX b 73 M' ∧ CX b M' ∧ F20 M M' := by
  intro f
  have h8 := hOS.1
  induction f with
  | zero => intro i M h1 h2; omega
  | succ f ih =>
    intro i M h1 h2 hX hS hL
    rw [fX6_find_b2, hS.1]
    by_cases hi : i = bn b
    · subst hi
      rw [if_pos (nI_le (Nat.le_refl _) (by omega))]
      unfold fX6_find_b32
      have hC : CX b M := ⟨hX, hS, hL⟩
      have hC0 : CX b (sI M 20 0 (nI 0)) := CX_fr (fun a ha => sI_n (by omega)) hC
      obtain ⟨M1, m1, w1, f1⟩ := add_v (v := 0) hO hC0 hOS (by decide) (Or.inl rfl) ⟨sI_s _ _ _ _, fun i hi => absurd hi (by show ¬ i < 0; omega)⟩
      have m1 : fX6_addIfFits 1 (mI 1) (nI 0) (sI M 20 0 (nI 0)) = some ((), M1) := m1
      obtain ⟨M2, m2, w2, c2, f2⟩ := fi_46 hO hOS fu 0 M1 (by omega) (by decide) (CX_fr f1 hC0) w1
      rw [m1, bd_s, m2]
      exact ⟨M2, rfl, w2, c2, fun a ha => by rw [f2 a ha, f1 a (by omega), sI_n (by omega)]⟩
    · have hib : i < bn b := by omega
      rw [if_neg (nI_ge hib (by omega)), gd_of (inb_nI (by omega) (by decide)), nI_clamp (by omega), hS.2.1 i hib, lead_s hX hO, bd_s, gd_of (inb_nI (by omega) (by decide)), nI_1']
      obtain ⟨M2, m2, w2, c2, f2⟩ := ih (i + 1) (sI M 23 i (iI (ld b (fun k => (bc b i).testBit k && th b k)))) (by omega) (by omega) (XK_fr (fun a h1 h2 => sI_n (by omega)) hX) (XS_fr (sI_n (by decide)) (sI_n (by decide)) hS) (fun j hj => by
        rw [sI_g]
        by_cases q : j = i
        · subst q; rw [if_pos ⟨rfl, rfl⟩]
        · rw [if_neg (fun z => q z.2)]; exact hL j (by omega))
      exact ⟨M2, m2, w2, c2, fun a ha => by rw [f2 a ha, sI_n (by omega)]⟩
theorem find_w {b : Sb} {M : Mm} (hO : OK b) (hOS : OS b) (hX : XK 1 b M) (hS : XS 1 b M) : ∃ M', fX6_find 1 M = some ((), M') ∧ WX b 73 M' ∧ CX b M' ∧ F20 M M' := fi_2 hO hOS fu 0 M (by omega) (by have := hOS.1; have : fu = 5000 := rfl; omega) hX hS (fun j hj => absurd hj (by omega))
/-! reference side -/
theorem rateIn_k {b : Sb} {M : Mm} (hM : MK b M) (hO : OK b) {v k : Nat} (hv : v < 73) (hk : k < 12) : fX9_rateIn (wldI v) (nI k) M = some (nI (rk b v k), M) := by
  unfold fX9_rateIn fX9_rateIn_b24 rk
  rw [rateOf_k hM hO hk, bd_s]
  by_cases q : v = 0
  · have e1 : wldI v = mI 1 := if_pos q
    rw [e1, if_pos m1_neg, if_neg (fun z => z.1 q)]
  · have e1 : wldI v = nI (v - 1) := if_neg q
    rw [e1, if_neg (nI_nlt (Nat.zero_le _) (by omega)), pk_div (by omega) (by decide) (by decide), jrem_nI (by omega) (by decide) (by decide), gd_of (inb_nI (Nat.mod_lt _ (by decide)) (by decide)), nI_clamp (by omega)]
    have e2 : nI ((v - 1) / 6) = nI k ↔ wo v = k := nI_eq (by omega) (by omega)
    simp only [e2]
    by_cases q2 : wo v = k
    · rw [if_pos q2, if_pos ⟨q, q2⟩]
      have := hM.2.2.2.2 (wr v) (wr_lt v)
      exact congrArg some (Prod.ext this rfl)
    · rw [if_neg q2, if_neg (fun z => q2 z.2)]
theorem ee_19 {b : Sb} {M : Mm} (hM : MK b M) (hO : OK b) {v s : Nat} (hv : v < 73) (hs : s < 4096) : ∀ f k, k ≤ 12 → 12 < k + f → fX9_isEvenIn_b19 f (wldI v) (nI (s &&& bp b)) (iI (sm (fun k => if (s.testBit k && th b k) then sgn k (rk b v k) else 0) k)) (nI k) M = some (nI (decide (ew b v s = 0)).toNat, M) := by
  intro f
  have hp : s &&& bp b < 4096 := Nat.lt_of_le_of_lt Nat.and_le_left hs
  induction f with
  | zero => intro k h1 h2; omega
  | succ f ih =>
    intro k h1 h2
    rw [fX9_isEvenIn_b19]
    by_cases hk : k = 12
    · subst hk
      rw [if_pos (by decide)]
      unfold fX9_isEvenIn_b81
      show (if iI (ew b v s) = nI 0 then _ else _) = _
      simp only [ew_z hO]
      by_cases q : ew b v s = 0
      · rw [if_pos q, decide_eq_true q]; rfl
      · rw [if_neg q, decide_eq_false q]; rfl
    · have hk' : k < 12 := by omega
      have e1 := ih (k + 1) (by omega) (by omega)
      rw [sm] at e1
      rw [if_neg (nI_ge hk' (by decide)), rateIn_k hM hO hv hk', bd_s, bd_s]
      have hgo : ∀ u : Int, u = sgn k (rk b v k) → fX9_isEvenIn_b51 (fX9_isEvenIn_b19 f) (wldI v) (nI (s &&& bp b)) (iI (sm (fun k => if (s.testBit k && th b k) = true then sgn k (rk b v k) else 0) k)) (nI k) (iI u) M = some (nI (decide (ew b v s = 0)).toNat, M) := by
        intro u hu
        unfold fX9_isEvenIn_b51
        rw [jbit (by omega) (by omega), ib1, nI_1', iI_add, show nI 0 = iI 0 from rfl, iI_add, Nat.testBit_and]
        by_cases hz : (s.testBit k && th b k) = true
        · rw [if_pos (show (s.testBit k && (bp b).testBit k) = true from hz)]
          rw [if_pos hz] at e1
          rw [hu]; exact e1
        · rw [if_neg (show ¬ (s.testBit k && (bp b).testBit k) = true from hz)]
          rw [if_neg hz] at e1
          exact e1
      by_cases h6 : k < 6
      · rw [if_neg (nI_ge h6 (by decide)), iI_nI (rk b v k)]
        exact hgo _ (by simp [sgn, h6])
      · rw [if_pos (nI_le (by omega) (by omega)), iI_nI (rk b v k), iI_neg]
        exact hgo _ (by simp [sgn, h6])
theorem isEven_k {b : Sb} {M : Mm} (hM : MK b M) (hO : OK b) {v o t : Nat} (hv : v < 73) (ho : o < 64) (ht : t < 64) : fX9_isEvenIn (wldI v) (nI o) (nI t) M = some (nI (decide (ew b v (o ||| t * 64) = 0)).toNat, M) := by
  unfold fX9_isEvenIn
  rw [jshl_nI (by decide) (by omega), show t * 2 ^ 6 = t * 64 from rfl, nI_or, hM.1, nI_and]
  exact ee_19 hM hO hv (cr_lt2 ho ht) fu 0 (by omega) (by decide)
theorem or_md {s : Nat} (hs : s < 4096) : s % 64 ||| s / 64 * 64 = s := by
  apply Nat.eq_of_testBit_eq
  intro k
  rw [cr_bit (Nat.mod_lt _ (by decide)), show (64 : Nat) = 2 ^ 6 from rfl, Nat.testBit_mod_two_pow, Nat.testBit_div_two_pow]
  by_cases h : k < 6
  · rw [if_pos h, decide_eq_true h, Bool.true_and]
  · rw [if_neg h, show k - 6 + 6 = k by omega]
theorem iw_39 {b : Sb} {M : Mm} (hM : MK b M) (hG : MG b M) (hO : OK b) (hOS : OS b) {v : Nat} (hv : v < 73) : ∀ f r i a, i + r = bn b → r < f → fX9_isWorld_b39 f (wldI v) (nI (a : Bool).toNat) (nI i) M = some (nI (a && aF b v r i).toNat, M) := by
  intro f
  have h8 := hOS.1
  induction f with
  | zero => intro r i a _ h; omega
  | succ f ih =>
    intro r i a hi hr
    rw [fX9_isWorld_b39, hG.1]
    cases r with
    | zero => rw [if_pos (nI_le (by omega) (by omega)), gd_of bool_gd, aF, Bool.and_true]
    | succ r =>
      have hib : i < bn b := by omega
      have hi8 : inb (nI i) 8 = true := inb_nI (by omega) (by decide)
      have hb := hOS.2 i hib
      obtain ⟨g1, g2, g3⟩ := hG.2 i hib
      have n1 := ih r (i + 1) true (by omega) (by omega)
      have n0 := ih r (i + 1) false (by omega) (by omega)
      have n1 : fX9_isWorld_b39 f (wldI v) (nI 1) (nI (i + 1)) M = _ := n1
      have n0 : fX9_isWorld_b39 f (wldI v) (nI 0) (nI (i + 1)) M = _ := n0
      rw [if_neg (nI_ge hib (by omega)), ib0, nI_1', n0, gd_of hi8, gd_of hi8, nI_clamp (by omega), g1, g2, isEven_k hM hO hv (by omega) (by omega), bd_s, gd_of hi8, g3, ib1, or_md hb]
      unfold fX9_isWorld_b83
      rw [nI_1', n1, n0, aF, oks]
      cases a
      · rfl
      · rw [if_pos rfl]
        by_cases q : ew b v (bc b i) = 0
        · rw [decide_eq_true q]
          cases be b i
          · rw [if_neg (show ¬ false = true by decide), if_neg (show ¬ nI true.toNat = nI 0 by decide)]; rfl
          · rw [if_pos (show true = true from rfl), if_pos (show nI true.toNat = nI 1 from rfl)]; simp
        · rw [decide_eq_false q]
          cases be b i
          · rw [if_neg (show ¬ false = true by decide), if_pos (show nI false.toNat = nI 0 from rfl)]; simp
          · rw [if_pos (show true = true from rfl), if_neg (show ¬ nI false.toNat = nI 1 by decide)]; rfl
theorem isWorld_k {b : Sb} {M : Mm} (hM : MK b M) (hG : MG b M) (hO : OK b) (hOS : OS b) {v : Nat} (hv : v < 73) : fX9_isWorld (wldI v) M = some (nI (isW b v).toNat, M) := by
  unfold fX9_isWorld isW
  have h8 := hOS.1
  have h := fun a => iw_39 hM hG hO hOS hv fu (bn b) 0 a (by omega) (by have : fu = 5000 := rfl; omega)
  have h1 : fX9_isWorld_b39 fu (wldI v) (nI 1) (nI 0) M = _ := h true
  have h0 : fX9_isWorld_b39 fu (wldI v) (nI 0) (nI 0) M = _ := h false
  by_cases q : v = 0
  · have e1 : wldI v < nI 0 := by rw [show wldI v = mI 1 from if_pos q]; exact m1_neg
    rw [if_pos e1, h1, decide_eq_true q, Bool.true_or]
  · have e1 : wldI v = nI (v - 1) := if_neg q
    have hw : (v - 1) / 6 < 12 := by omega
    have hbr := hO.2.2.1 _ hw
    have hr : (v - 1) % 6 < 6 := Nat.mod_lt _ (by decide)
    have ed : wldI v / nI 6 = nI (wo v) := by rw [e1, pk_div (by omega) (by decide) (by decide)]; rfl
    have er : jrem (wldI v) (nI 6) = nI (wr v) := by rw [e1, jrem_nI (by omega) (by decide) (by decide)]; rfl
    have hw : wo v < 12 := hw
    have hr : wr v < 6 := hr
    have hbr : br b (wo v) < 6 := hbr
    rw [if_neg (by rw [e1]; exact nI_nlt (Nat.zero_le _) (by omega)), ed, er, isOfficer_k hM hO hw, bd_s, ib0, gd_of (inb_nI hw (by decide)), nI_clamp (by omega), hM.2.2.1 _ hw, h1, h0, decide_eq_false q, Bool.false_or]
    have e2 : nI (br b (wo v)) = nI (wr v) ↔ br b (wo v) = wr v := nI_eq (by omega) (by omega)
    simp only [e2]
    cases th b (wo v)
    · rfl
    · rw [if_pos rfl]
      by_cases q2 : br b (wo v) = wr v
      · rw [if_pos q2, decide_eq_true q2]; rfl
      · rw [if_neg q2, decide_eq_false q2]; simp
def WM (b : Sb) (v : Nat) (M : Mm) : Prop := M.1 0 27 = nI (cw b v) ∧ ∀ i, i < cw b v → M.1 14 i = wldI (wd b i)
def FrV (M M' : Mm) : Prop := (∀ a, a ≠ 0 → a ≠ 14 → M'.1 a = M.1 a) ∧ ∀ j, j ≠ 27 → M'.1 0 j = M.1 0 j
theorem RM_V {S : Sa} {M M' : Mm} (h : FrV M M') (hM : RM S M) : RM S M' := RM_hk hM (MK_fr (h.2 0 (by decide)) (h.2 1 (by decide)) (h.1 1 (by decide) (by decide)) (h.1 2 (by decide) (by decide)) (h.1 3 (by decide) (by decide)) hM.1) (fun j hj => h.2 j (by omega)) (fun a ha => h.1 a (by omega) (by omega))
theorem wldI_s {v : Nat} : wldI v + nI 1 = wldI (v + 1) := by
  unfold wldI
  by_cases q : v = 0
  · subst q; rfl
  · rw [if_neg q, if_neg (by omega), nI_1']
    congr 1
    omega
theorem fw_7 {S : Sa} (hS : XO S) : ∀ f r v M, v + r = 73 → r < f → RM S M → WM S.1 v M → ∃ M', fX9_findWorlds_b7 f (wldI v) M = some ((), M') ∧ WM S.1 73 M' ∧ RM S M' := by
  intro f
  have hO := hS.1
  induction f with
  | zero => intro r v M _ h; omega
  | succ f ih =>
    intro r v M hv hr hM hW
    rw [fX9_findWorlds_b7]
    cases r with
    | zero =>
      have : v = 73 := by omega
      subst this
      rw [if_pos (by decide)]
      exact ⟨M, rfl, hW, hM⟩
    | succ r =>
      have hlt : ¬ nI 72 ≤ wldI v := by
        unfold wldI
        split
        · decide
        · exact nI_ge (by omega) (by decide)
      rw [if_neg hlt, isWorld_k hM.1 hM.2.1 hO hS.2.1 (by omega), bd_s, ib0, wldI_s, hW.1]
      cases hf : isW S.1 v
      · have e : cw S.1 (v + 1) = cw S.1 v := by show cnt (isW S.1) v + (isW S.1 v).toNat = _; rw [hf]; rfl
        refine ih r (v + 1) M (by omega) (by omega) hM ?_
        unfold WM
        rw [e]; exact hW
      · have e : cw S.1 (v + 1) = cw S.1 v + 1 := by show cnt (isW S.1) v + (isW S.1 v).toNat = _; rw [hf]; rfl
        have h60 := cw_60 hO (show v < 73 by omega) hf
        have hw := wd_at hf (show v < 73 by omega)
        rw [if_pos rfl, gd_of (inb_nI (by omega) (by decide)), nI_clamp (by omega), sI_n (by decide), hW.1, nI_1']
        have ff : FrV M (sI (sI M 14 (cw S.1 v) (wldI v)) 0 27 (nI (cw S.1 v + 1))) := ⟨fun a h1 h2 => by rw [sI_n h1, sI_n h2], fun j hj => by rw [sI_j _ hj, sI_n (by decide)]⟩
        refine ih r (v + 1) _ (by omega) (by omega) (RM_V ff hM) ⟨by rw [sI_s, e], fun i hi => ?_⟩
        rw [sI_n (by decide)]
        by_cases q : i = cw S.1 v
        · subst q; rw [sI_s, hw]
        · rw [sI_j _ q]
          rw [e] at hi
          exact hW.2 i (by omega)
theorem findWorlds_m {S : Sa} {M : Mm} (hS : XO S) (hM : RM S M) : ∃ M', fX9_findWorlds M = some ((), M') ∧ WM S.1 73 M' ∧ RM S M' := by
  unfold fX9_findWorlds
  have ff : FrV M (sI M 0 27 (nI 0)) := ⟨fun a h1 h2 => sI_n h1, fun j hj => sI_j _ hj⟩
  exact fw_7 hS fu 73 0 (sI M 0 27 (nI 0)) (by omega) (by decide) (RM_V ff hM) ⟨sI_s _ _ _ _, fun i hi => absurd hi (by show ¬ i < 0; omega)⟩
