/-! forged, rank, weigh -/
abbrev nW (b : Sb) : Nat := cw b 73
def fgB (b : Sb) : Nat → Nat
  | 0 => 0
  | i + 1 => fgB b i ||| (if wd b i = 0 then 0 else 2 ^ wo (wd b i))
theorem nW_61 {b : Sb} (hO : OK b) : nW b ≤ 61 := cw_61 hO (Nat.le_refl _)
theorem WX_n {b : Sb} {M : Mm} (h : WX b 73 M) : M.1 20 0 = nI (nW b) := h.1
theorem WM_n {b : Sb} {M : Mm} (h : WM b 73 M) : M.1 0 27 = nI (nW b) := h.1
theorem fg_4 {b : Sb} {M : Mm} (hO : OK b) (hW : WX b 73 M) : ∀ f i, i ≤ nW b → nW b < i + f → fX6_forgers_b4 f (nI (fgB b i)) (nI i) M = some (nI (fgB b (nW b)), M) := by
  intro f
  have h61 := nW_61 hO
  induction f with
  | zero => intro i h1 h2; omega
  | succ f ih =>
    intro i h1 h2
    rw [fX6_forgers_b4, (WX_n hW)]
    by_cases hi : i = nW b
    · subst hi; rw [if_pos (nI_le (Nat.le_refl _) (by omega))]
    · have hi' : i < nW b := by omega
      have hg : inb (nI i) 61 = true := inb_nI (by omega) (by decide)
      have e1 := ih (i + 1) (by omega) (by omega)
      rw [fgB] at e1
      have hw := wo_lt (wd_lt b i)
      rw [if_neg (nI_ge hi' (by omega)), gd_of hg, gd_of hg, nI_clamp (by omega), (hW.2 i hi').1, nI_1']
      unfold whoI
      by_cases q : wd b i = 0
      · rw [if_pos q, if_pos rfl]
        rw [if_pos q, Nat.or_zero] at e1
        exact e1
      · rw [if_neg q, if_neg (nI_m1' (by omega)), j2k (by omega), nI_or]
        rw [if_neg q] at e1
        exact e1
theorem fg_21 {b : Sb} {M : Mm} {x : Int32} (hO : OK b) (hW : WM b 73 M) : ∀ f i, i ≤ nW b → nW b < i + f → fX9_forged_b21 f x (nI (fgB b i)) (nI i) M = fX9_forged_b62 x (nI (fgB b (nW b))) M := by
  intro f
  have h61 := nW_61 hO
  induction f with
  | zero => intro i h1 h2; omega
  | succ f ih =>
    intro i h1 h2
    rw [fX9_forged_b21, (WM_n hW)]
    by_cases hi : i = nW b
    · subst hi; rw [if_pos (nI_le (Nat.le_refl _) (by omega))]
    · have hi' : i < nW b := by omega
      have hg : inb (nI i) 73 = true := inb_nI (by omega) (by decide)
      have e1 := ih (i + 1) (by omega) (by omega)
      rw [fgB] at e1
      have hv := wd_lt b i
      have hw := wo_lt hv
      rw [if_neg (nI_ge hi' (by omega)), gd_of hg, gd_of hg, nI_clamp (by omega), hW.2 i hi', nI_1']
      unfold wldI
      by_cases q : wd b i = 0
      · rw [if_pos q, if_neg (by decide), nI_or]
        rw [if_pos q] at e1
        exact e1
      · rw [if_neg q, if_pos (nI_le (Nat.zero_le _) (by omega)), pk_div (by omega) (by decide) (by decide)]
        rw [if_neg q] at e1
        unfold wo at e1 hw
        rw [j2k (by omega), nI_or]
        exact e1
theorem op_forged : Op_forged Rl2 := by
  intro x Mx M_ ⟨⟨S, hS, hX, hM⟩, hZ⟩
  have hO := hS.1
  unfold fX8_forged fX9_forged fX6_forgers
  rw [isWithin_nI x (a := 0) (b := 1) (by decide) (by decide), bd_s, in_nI x (a := 0) (b := 1) (by decide) (by decide), bd_s, ib0, ib0]
  cases hw : wi x 0 1
  · exact ⟨_, _, _, rfl, rfl, ⟨S, hS, hX, hM⟩, hZ⟩
  obtain ⟨M1, e1, w1, c1, f1⟩ := find_w hO hS.2.1 hX.1 hX.2.1
  obtain ⟨M2, e2, w2, r2⟩ := findWorlds_m hS hM
  have h61 := nW_61 hO
  have g1 := fg_4 hO w1 fu 0 (by omega) (by have : fu = 5000 := rfl; omega)
  have g2 := fg_21 (x := x) hO w2 fu 0 (by omega) (by have : fu = 5000 := rfl; omega)
  have g1 : fX6_forgers_b4 fu (nI 0) (nI 0) M1 = _ := g1
  have g2 : fX9_forged_b21 fu x (nI 0) (nI 0) M2 = _ := g2
  simp only [if_true]
  rw [e1, bd_s, e2, bd_s, g1, g2, bd_s, w1.1]
  unfold fX9_forged_b62
  rw [w2.1]
  have hrel : Rl2 M1 M2 := ⟨⟨S, hS, RX_fr (fun a ha => f1 a (by omega)) hX, r2⟩, by rw [f1 15 (by decide)]; exact hZ.1, by rw [f1 16 (by decide)]; exact hZ.2⟩
  split
  · exact ⟨_, _, _, rfl, rfl, hrel⟩
  · exact ⟨_, _, _, rfl, rfl, hrel⟩
def lrF (b : Sb) (k : Nat) : Nat → Nat → Int32
  | 0, _ => mI 6
  | r + 1, i => if ¬ wd b i = 0 ∧ wo (wd b i) = k then nI (wr (wd b i)) else lrF b k r (i + 1)
theorem lr_2 {b : Sb} {M : Mm} {k : Nat} (hO : OK b) (hW : WX b 73 M) (hk : k < 12) : ∀ f r i, i + r = nW b → r < f → fX6_leastRank_b2 f (nI k) (nI i) M = some (lrF b k r i, M) := by
  intro f
  have h61 := nW_61 hO
  induction f with
  | zero => intro r i _ h; omega
  | succ f ih =>
    intro r i hi hr
    rw [fX6_leastRank_b2, (WX_n hW)]
    cases r with
    | zero => rw [if_pos (nI_le (by omega) (by omega))]; rfl
    | succ r =>
      have hi' : i < nW b := by omega
      have hg : inb (nI i) 61 = true := inb_nI (by omega) (by decide)
      have hw := wo_lt (wd_lt b i)
      rw [if_neg (nI_ge hi' (by omega)), gd_of hg, gd_of hg, nI_clamp (by omega), (hW.2 i hi').1, (hW.2 i hi').2, nI_1', lrF, ih r (i + 1) (by omega) (by omega)]
      unfold whoI hadI
      by_cases q : wd b i = 0
      · rw [if_pos q, if_neg (fun z => nI_m1' (by omega) z.symm), if_neg (fun z => z.1 q)]
      · have e : nI (wo (wd b i)) = nI k ↔ wo (wd b i) = k := nI_eq (by omega) (by omega)
        rw [if_neg q, if_neg q]
        by_cases q2 : wo (wd b i) = k
        · rw [if_pos (e.mpr q2), if_pos ⟨q, q2⟩]
        · rw [if_neg (fun z => q2 (e.mp z)), if_neg (fun z => q2 z.2)]
theorem lr_16 {b : Sb} {M : Mm} {k : Nat} (hO : OK b) (hW : WM b 73 M) (hk : k < 12) : ∀ f r i, i + r = nW b → r < f → fX9_rank_b16 f (nI k) (nI i) M = some (lrF b k r i, M) := by
  intro f
  have h61 := nW_61 hO
  induction f with
  | zero => intro r i _ h; omega
  | succ f ih =>
    intro r i hi hr
    rw [fX9_rank_b16, (WM_n hW)]
    cases r with
    | zero => rw [if_pos (nI_le (by omega) (by omega))]; rfl
    | succ r =>
      have hi' : i < nW b := by omega
      have hg : inb (nI i) 73 = true := inb_nI (by omega) (by decide)
      have hv := wd_lt b i
      have hw := wo_lt hv
      rw [if_neg (nI_ge hi' (by omega)), gd_of hg, gd_of hg, gd_of hg, nI_clamp (by omega), hW.2 i hi', nI_1', lrF, ih r (i + 1) (by omega) (by omega)]
      unfold wldI
      by_cases q : wd b i = 0
      · rw [if_pos q, if_pos m1_neg, if_neg (fun z => z.1 q)]
      · have e : nI ((wd b i - 1) / 6) = nI k ↔ wo (wd b i) = k := nI_eq (by omega) (by omega)
        rw [if_neg q, if_neg (nI_nlt (Nat.zero_le _) (by omega)), pk_div (by omega) (by decide) (by decide), jrem_nI (by omega) (by decide) (by decide)]
        by_cases q2 : wo (wd b i) = k
        · rw [if_pos (e.mpr q2), if_pos ⟨q, q2⟩]; rfl
        · rw [if_neg (fun z => q2 (e.mp z)), if_neg (fun z => q2 z.2)]
theorem op_rank : Op_rank Rl2 := by
  intro x Mx M_ ⟨⟨S, hS, hX, hM⟩, hZ⟩
  have hO := hS.1
  unfold fX8_rank fX9_rank fX6_leastRank
  rw [isThere_x hX.1 hO, bd_s, isOfficer_x hM.1 hO, bd_s, ib0, ib0]
  cases ht : (wi x 0 11 && th S.1 x.toNatClampNeg)
  · exact ⟨_, _, _, rfl, rfl, ⟨S, hS, hX, hM⟩, hZ⟩
  rw [Bool.and_eq_true] at ht
  obtain ⟨k, _, hk, rfl⟩ := wi_of (by decide) ht.1
  obtain ⟨M1, e1, w1, c1, f1⟩ := find_w hO hS.2.1 hX.1 hX.2.1
  obtain ⟨M2, e2, w2, r2⟩ := findWorlds_m hS hM
  have h61 := nW_61 hO
  have g1 := lr_2 (k := k) hO w1 (by omega) fu (nW S.1) 0 (by omega) (by have : fu = 5000 := rfl; omega)
  have g2 := lr_16 (k := k) hO w2 (by omega) fu (nW S.1) 0 (by omega) (by have : fu = 5000 := rfl; omega)
  simp only [if_true]
  rw [e1, bd_s, e2, bd_s, g1, g2, bd_s]
  exact ⟨_, _, _, rfl, rfl, ⟨S, hS, RX_fr (fun a ha => f1 a (by omega)) hX, r2⟩, by rw [f1 15 (by decide)]; exact hZ.1, by rw [f1 16 (by decide)]; exact hZ.2⟩
def eqW (b : Sb) (o t i : Nat) : Bool := decide (rk b (wd b i) o = rk b (wd b i) t)
def mlN (b : Sb) (o t : Nat) : Nat := max (cnt (eqW b o t) (nW b)) (nW b - cnt (eqW b o t) (nW b))
theorem mlN_le {b : Sb} (hO : OK b) (o t : Nat) : mlN b o t ≤ 61 := by
  have h61 := nW_61 hO
  have := cnt_le (eqW b o t) (nW b)
  unfold mlN
  omega
theorem worthIn_k {b : Sb} {M : Mm} {i k : Nat} (hO : OK b) (hX : XK 1 b M) (hW : WX b 73 M) (hi : i < nW b) (hk : k < 12) : fX6_worthIn 1 (nI i) (nI k) M = some (nI (rk b (wd b i) k), M) := by
  have h61 := nW_61 hO
  have hg : inb (nI i) 61 = true := inb_nI (by omega) (by decide)
  have hw := wo_lt (wd_lt b i)
  have hr := wr_lt (wd b i)
  unfold fX6_worthIn
  rw [gd_of hg, gd_of hg, nI_clamp (by omega), (hW.2 i hi).1, (hW.2 i hi).2, worth_k hX hO hk, bd_s]
  unfold whoI hadI rk
  by_cases q : wd b i = 0
  · rw [if_pos q, if_neg (fun z => nI_m1' (by omega) z.symm), if_neg (fun z => z.1 q)]
  · have e : nI (wo (wd b i)) = nI k ↔ wo (wd b i) = k := nI_eq (by omega) (by omega)
    rw [if_neg q, if_neg q]
    by_cases q2 : wo (wd b i) = k
    · rw [if_pos (e.mpr q2), if_pos ⟨q, q2⟩, gd_of (inb_nI hr (by decide)), nI_clamp (by omega), hX.2.2.2.2 _ hr]
    · rw [if_neg (fun z => q2 (e.mp z)), if_neg (fun z => q2 z.2)]
theorem ml_6 {b : Sb} {M : Mm} {o t : Nat} (hO : OK b) (hX : XK 1 b M) (hW : WX b 73 M) (ho : o < 12) (ht : t < 12) : ∀ f i, i ≤ nW b → nW b < i + f → fX6_mostLeft_b6 1 f (nI o) (nI t) (nI (cnt (eqW b o t) i)) (nI i) M = some (nI (mlN b o t), M) := by
  intro f
  have h61 := nW_61 hO
  induction f with
  | zero => intro i h1 h2; omega
  | succ f ih =>
    intro i h1 h2
    rw [fX6_mostLeft_b6, (WX_n hW)]
    by_cases hi : i = nW b
    · subst hi
      have := cnt_le (eqW b o t) (nW b)
      rw [if_pos (nI_le (Nat.le_refl _) (by omega))]
      unfold fX6_mostLeft_b43
      rw [(WX_n hW), pk_sub this, jmax_nI (by omega) (by omega)]
      rfl
    · have hi' : i < nW b := by omega
      have e1 := ih (i + 1) (by omega) (by omega)
      rw [cnt] at e1
      have r1 := rk_bd hO (wd b i) ho
      have r2 := rk_bd hO (wd b i) ht
      have e : nI (rk b (wd b i) o) = nI (rk b (wd b i) t) ↔ rk b (wd b i) o = rk b (wd b i) t := nI_eq (by omega) (by omega)
      rw [if_neg (nI_ge hi' (by omega)), worthIn_k hO hX hW hi' ho, bd_s, worthIn_k hO hX hW hi' ht, bd_s, nI_1', nI_1']
      unfold eqW at e1 ⊢
      by_cases q : rk b (wd b i) o = rk b (wd b i) t
      · rw [if_pos (e.mpr q)]
        rw [decide_eq_true q] at e1
        exact e1
      · rw [if_neg (fun z => q (e.mp z))]
        rw [decide_eq_false q] at e1
        exact e1
theorem ew_pair {b : Sb} {v o t : Nat} (ho : o < 6) (ht : 6 ≤ t) (ht2 : t < 12) (h1 : th b o = true) (h2 : th b t = true) : ew b v (2 ^ o ||| 2 ^ (t - 6) * 64) = (rk b v o : Int) - rk b v t := by
  have hp : 2 ^ o < 64 := by
    have : 2 ^ o < 2 ^ 6 := Nat.pow_lt_pow_right (by decide) ho
    simpa using this
  have hb : ∀ k, (2 ^ o ||| 2 ^ (t - 6) * 64).testBit k = (decide (o = k) || decide (t = k)) := by
    intro k
    rw [cr_bit hp]
    by_cases q : k < 6
    · rw [if_pos q, Nat.testBit_two_pow, decide_eq_false (by omega : ¬ t = k), Bool.or_false]
    · rw [if_neg q, Nat.testBit_two_pow, decide_eq_false (by omega : ¬ o = k), Bool.false_or]
      apply decide_eq_decide.mpr
      omega
  unfold ew
  have u1 := sm_up (g := fun _ => 0) (h := fun k => if k = o then (rk b v o : Int) else 0) (i := o) (w := (rk b v o : Int)) (fun j hj => if_neg hj) (by show (if o = o then _ else _) = _; rw [if_pos rfl]; omega) 12
  have u2 := sm_up (g := fun k => if k = o then (rk b v o : Int) else 0) (h := fun k => if ((2 ^ o ||| 2 ^ (t - 6) * 64).testBit k && th b k) then sgn k (rk b v k) else 0) (i := t) (w := -(rk b v t : Int)) (fun j hj => by
    show (if ((2 ^ o ||| 2 ^ (t - 6) * 64).testBit j && th b j) = true then sgn j (rk b v j) else 0) = if j = o then (rk b v o : Int) else 0
    rw [hb, decide_eq_false (show ¬ t = j from fun z => hj z.symm), Bool.or_false]
    by_cases q : j = o
    · subst q
      rw [decide_eq_true rfl, h1, if_pos rfl, if_pos (show (true && true) = true from rfl)]
      unfold sgn
      rw [if_pos ho]
    · rw [decide_eq_false (fun z => q z.symm), if_neg q]; rfl) (by
    show (if ((2 ^ o ||| 2 ^ (t - 6) * 64).testBit t && th b t) = true then sgn t (rk b v t) else 0) = (if t = o then (rk b v o : Int) else 0) + _
    rw [hb, decide_eq_true (show t = t from rfl), Bool.or_true, h2, if_pos (show (true && true) = true from rfl), if_neg (by omega)]
    unfold sgn
    rw [if_neg (by omega)]; omega) 12
  have z : sm (fun _ => (0 : Int)) 12 = 0 := by decide
  rw [u2, u1, z, if_pos (by omega), if_pos ht2]
  omega
theorem ml_5 {b : Sb} {M : Mm} {o t : Nat} (hO : OK b) (hM : MK b M) (hW : WM b 73 M) (ho : o < 6) (ht : 6 ≤ t) (ht2 : t < 12) (h1 : th b o = true) (h2 : th b t = true) : ∀ f i, i ≤ nW b → nW b < i + f → fX9_mostLeft_b5 f (nI o) (nI t) (nI (cnt (eqW b o t) i)) (nI i) M = some (nI (mlN b o t), M) := by
  intro f
  have h61 := nW_61 hO
  have hp : 2 ^ o < 64 := by
    have : 2 ^ o < 2 ^ 6 := Nat.pow_lt_pow_right (by decide) ho
    simpa using this
  have hq : 2 ^ (t - 6) < 64 := by
    have : 2 ^ (t - 6) < 2 ^ 6 := Nat.pow_lt_pow_right (by decide) (by omega)
    simpa using this
  induction f with
  | zero => intro i h1 h2; omega
  | succ f ih =>
    intro i hi1 hi2
    rw [fX9_mostLeft_b5, (WM_n hW)]
    by_cases hi : i = nW b
    · subst hi
      have hc := cnt_le (eqW b o t) (nW b)
      rw [if_pos (nI_le (Nat.le_refl _) (by omega))]
      unfold fX9_mostLeft_b51 mlN
      rw [(WM_n hW), pk_sub hc]
      have e := nI_leI (a := cnt (eqW b o t) (nW b)) (b := nW b - cnt (eqW b o t) (nW b)) (by omega) (by omega)
      by_cases q : cnt (eqW b o t) (nW b) ≤ nW b - cnt (eqW b o t) (nW b)
      · rw [if_pos (e.mpr q), Nat.max_eq_right q]
      · rw [if_neg (fun z => q (e.mp z)), Nat.max_eq_left (by omega)]
    · have hi' : i < nW b := by omega
      have e1 := ih (i + 1) (by omega) (by omega)
      rw [cnt] at e1
      rw [if_neg (nI_ge hi' (by omega)), gd_of (inb_nI (by omega) (by decide)), nI_clamp (by omega), hW.2 i hi', j2k (by omega), pk_sub ht, j2k (by omega), isEven_k hM hO (wd_lt b i) hp hq, bd_s, ib0, ew_pair ho ht ht2 h1 h2]
      simp only [nI_add]
      unfold eqW at e1 ⊢
      by_cases q : rk b (wd b i) o = rk b (wd b i) t
      · rw [decide_eq_true (by omega), if_pos rfl]
        rw [decide_eq_true q] at e1
        exact e1
      · rw [decide_eq_false (by omega), if_neg (by decide)]
        rw [decide_eq_false q] at e1
        exact e1
def wst (b : Sb) (s : Nat × Nat) (o t : Nat) : Nat × Nat := if (decide (0 < nW b) && (th b o && th b t)) then (if s.1 = 1000 ∨ mlN b o t < s.2 then (12 * o + t, mlN b o t) else s) else s
def wIn (b : Sb) (o : Nat) : Nat → Nat → Nat × Nat → Nat × Nat
  | 0, _, s => s
  | r + 1, t, s => wIn b o r (t + 1) (wst b s o t)
def wOut (b : Sb) : Nat → Nat → Nat × Nat → Nat × Nat
  | 0, _, s => s
  | r + 1, o, s => wOut b r (o + 1) (wIn b o 6 6 s)
def SW (s : Nat × Nat) : Prop := s.1 ≤ 1000 ∧ s.2 ≤ 61
theorem wst_SW {b : Sb} (hO : OK b) {s : Nat × Nat} (h : SW s) {o t : Nat} (ho : o < 12) (ht : t < 12) : SW (wst b s o t) := by
  unfold wst
  split
  · split
    · exact ⟨by show 12 * o + t ≤ 1000; omega, mlN_le hO _ _⟩
    · exact h
  · exact h
theorem wIn_SW {b : Sb} (hO : OK b) {o : Nat} (ho : o < 12) : ∀ r t s, t + r ≤ 12 → SW s → SW (wIn b o r t s) := by
  intro r
  induction r with
  | zero => intro t s _ h; exact h
  | succ r ih => intro t s ht h; exact ih (t + 1) _ (by omega) (wst_SW hO h ho (by omega))
theorem wIn_0 {b : Sb} (h0 : nW b = 0) {o : Nat} : ∀ r t s, wIn b o r t s = s := by
  intro r
  induction r with
  | zero => intro t s; rfl
  | succ r ih =>
    intro t s
    rw [wIn, ih]
    unfold wst
    rw [decide_eq_false (by omega), Bool.false_and]; rfl
theorem wOut_0 {b : Sb} (h0 : nW b = 0) : ∀ r o s, wOut b r o s = s := by
  intro r
  induction r with
  | zero => intro o s; rfl
  | succ r ih => intro o s; rw [wOut, ih, wIn_0 h0]
def en1 (s : Nat × Nat) : Int32 := if s.1 = 1000 then mI 6 else nI s.1
def en2 (s : Nat × Nat) : Int32 := if s.1 = 1000 then mI 6 else nI s.2
def P2 (s : Nat × Nat) (M : Mm) : Prop := M.1 20 1 = en1 s ∧ M.1 20 2 = en2 s
theorem en1_6 {s : Nat × Nat} (h : SW s) : en1 s = mI 6 ↔ s.1 = 1000 := by
  unfold en1
  by_cases e : s.1 = 1000
  · rw [if_pos e]; exact ⟨fun _ => e, fun _ => rfl⟩
  · rw [if_neg e]
    refine ⟨fun z => ?_, fun z => absurd z e⟩
    have := congrArg Int32.toInt z
    have hh := h.1
    rw [nI_toInt (by omega), show (mI 6).toInt = -6 by decide] at this
    omega
theorem en1_lt {s : Nat × Nat} (h : SW s) : en1 s < nI 0 ↔ s.1 = 1000 := by
  have hh := h.1
  unfold en1
  by_cases e : s.1 = 1000
  · rw [if_pos e]; exact ⟨fun _ => e, fun _ => by decide⟩
  · rw [if_neg e]
    exact ⟨fun z => absurd z (nI_nlt (Nat.zero_le _) (by omega)), fun z => absurd z e⟩
theorem WX_20 {b : Sb} {M : Mm} (h : WX b 73 M) {j : Nat} (hj : j ≠ 0) (v : Int32) : WX b 73 (sI M 20 j v) := ⟨by rw [sI_j _ (Ne.symm hj)]; exact h.1, fun i hi => by rw [sI_n (by decide), sI_n (by decide)]; exact h.2 i hi⟩
theorem CX_20 {b : Sb} {M : Mm} (h : CX b M) (j : Nat) (v : Int32) : CX b (sI M 20 j v) := CX_fr (fun a ha => sI_n (by omega)) h
theorem offer_k {b : Sb} {s : Nat × Nat} {M : Mm} {p l : Nat} (hs : SW s) (hp : p < 1000) (hl : l ≤ 61) (hP : P2 s M) (hW : WX b 73 M) (hC : CX b M) : ∃ M', fX6_offerPair (nI p) (nI l) M = some ((), M') ∧ P2 (if s.1 = 1000 ∨ l < s.2 then (p, l) else s) M' ∧ WX b 73 M' ∧ CX b M' ∧ F20 M M' := by
  unfold fX6_offerPair
  rw [hP.1, hP.2]
  have e6 := en1_6 hs
  have hs2 := hs.2
  have yes : ∃ M', (some ((), sI (sI M 20 1 (nI p)) 20 2 (nI l)) : Option (Unit × Mm)) = some ((), M') ∧ P2 (p, l) M' ∧ WX b 73 M' ∧ CX b M' ∧ F20 M M' := by
    refine ⟨_, rfl, ⟨?_, ?_⟩, WX_20 (WX_20 hW (by decide) _) (by decide) _, CX_20 (CX_20 hC _ _) _ _, fun a ha => by rw [sI_n (by omega), sI_n (by omega)]⟩
    · rw [sI_j _ (by decide), sI_s]
      exact (if_neg (show ¬ p = 1000 by omega)).symm
    · rw [sI_s]
      exact (if_neg (show ¬ p = 1000 by omega)).symm
  by_cases q : s.1 = 1000
  · rw [if_pos (e6.mpr q), if_pos (Or.inl q)]
    exact yes
  · rw [if_neg (fun z => q (e6.mp z))]
    have e2 : en2 s = nI s.2 := if_neg q
    rw [e2]
    have e3 : nI s.2 ≤ nI l ↔ s.2 ≤ l := nI_leI (by omega) (by omega)
    by_cases q2 : s.2 ≤ l
    · rw [if_pos (e3.mpr q2), if_neg (by omega)]
      exact ⟨M, rfl, hP, hW, hC, F20.refl M⟩
    · rw [if_neg (fun z => q2 (e3.mp z)), if_pos (by omega)]
      exact yes
theorem cp_30 {b : Sb} {o : Nat} (hO : OK b) (ho : o < 6) (hN : 0 < nW b) (nx : Int32 → Mm → Option (Unit × Mm)) : ∀ f r t s M, t + r = 12 → r < f → 6 ≤ t → SW s → P2 s M → WX b 73 M → CX b M → ∃ M', fX6_choosePair_b30 nx 1 f (nI o) (nI t) M = nx (nI (o + 1)) M' ∧ P2 (wIn b o r t s) M' ∧ WX b 73 M' ∧ CX b M' ∧ F20 M M' := by
  intro f
  have h61 := nW_61 hO
  induction f with
  | zero => intro r t s M _ h; omega
  | succ f ih =>
    intro r t s M ht hr ht6 hs hP hW hC
    rw [fX6_choosePair_b30]
    cases r with
    | zero =>
      rw [if_pos (nI_le (by omega) (by omega)), nI_1']
      exact ⟨M, rfl, hP, hW, hC, F20.refl M⟩
    | succ r =>
      have h12 : t < 12 := by omega
      have hm := ml_6 hO hC.1 hW (show o < 12 by omega) h12 fu 0 (by omega) (by have : fu = 5000 := rfl; omega)
      have hm : fX6_mostLeft 1 (nI o) (nI t) M = _ := hm
      have hs2 := wst_SW hO hs (show o < 12 by omega) h12
      rw [if_neg (nI_ge h12 (by decide)), isThere_k hC.1 hO (by omega), bd_s, ib0, isThere_k hC.1 hO h12, bd_s, ib0, hm, bd_s, pk_mul, nI_add, nI_1', wIn]
      have no : (th b o && th b t) = false → wst b s o t = s := fun h => by unfold wst; rw [h, Bool.and_false]; rfl
      cases h1 : th b o
      · rw [no (by rw [h1]; rfl)]
        exact ih r (t + 1) s M (by omega) (by omega) (by omega) hs hP hW hC
      · cases h2 : th b t
        · rw [no (by rw [h1, h2]; rfl)]
          exact ih r (t + 1) s M (by omega) (by omega) (by omega) hs hP hW hC
        · have e : wst b s o t = if s.1 = 1000 ∨ mlN b o t < s.2 then (o * 12 + t, mlN b o t) else s := by
            unfold wst
            rw [h1, h2, decide_eq_true hN, Nat.mul_comm 12 o]; rfl
          obtain ⟨M1, m1, p1, w1, c1, f1⟩ := offer_k hs (show o * 12 + t < 1000 by omega) (mlN_le hO o t) hP hW hC
          rw [← e] at p1
          obtain ⟨M2, m2, p2, w2, c2, f2⟩ := ih r (t + 1) (wst b s o t) M1 (by omega) (by omega) (by omega) hs2 p1 w1 c1
          simp only [if_true]
          rw [m1, bd_s, m2]
          exact ⟨M2, rfl, p2, w2, c2, f1.trans f2⟩
theorem cp_14 {b : Sb} (hO : OK b) (hN : 0 < nW b) : ∀ f r o s M, o + r = 6 → r < f → SW s → P2 s M → WX b 73 M → CX b M → ∃ M', fX6_choosePair_b14 1 f (nI o) M = some ((), M') ∧ P2 (wOut b r o s) M' ∧ F20 M M' := by
  intro f
  have h61 := nW_61 hO
  induction f with
  | zero => intro r o s M _ h; omega
  | succ f ih =>
    intro r o s M ho hr hs hP hW hC
    rw [fX6_choosePair_b14, (WX_n hW)]
    cases r with
    | zero =>
      rw [if_pos (nI_le (by omega) (by omega))]
      exact ⟨M, rfl, hP, F20.refl M⟩
    | succ r =>
      have h6 : o < 6 := by omega
      obtain ⟨M1, m1, p1, w1, c1, f1⟩ := cp_30 hO h6 hN (fX6_choosePair_b14 1 f) fu 6 6 s M (by omega) (by decide) (by decide) hs hP hW hC
      obtain ⟨M2, m2, p2, f2⟩ := ih r (o + 1) (wIn b o 6 6 s) M1 (by omega) (by omega) (wIn_SW hO (by omega) 6 6 s (by omega) hs) p1 w1 c1
      rw [if_neg (nI_ge h6 (by decide)), if_neg (nI_ge (by omega) (by omega)), m1, m2]
      exact ⟨M2, rfl, p2, f1.trans f2⟩
abbrev wF (b : Sb) : Nat × Nat := wOut b 6 0 (1000, 0)
theorem choose_w {b : Sb} {M : Mm} (hO : OK b) (hW : WX b 73 M) (hC : CX b M) : ∃ M', fX6_choosePair 1 M = some ((), M') ∧ P2 (wF b) M' ∧ F20 M M' := by
  unfold fX6_choosePair
  have hp : P2 (1000, 0) (sI (sI M 20 1 (mI 6)) 20 2 (mI 6)) := ⟨by rw [sI_j _ (by decide), sI_s]; rfl, by rw [sI_s]; rfl⟩
  have hw := WX_20 (WX_20 hW (by decide : 1 ≠ 0) (mI 6)) (by decide : 2 ≠ 0) (mI 6)
  have ff : F20 M (sI (sI M 20 1 (mI 6)) 20 2 (mI 6)) := fun a ha => by rw [sI_n (by omega), sI_n (by omega)]
  by_cases h0 : nW b = 0
  · refine ⟨sI (sI M 20 1 (mI 6)) 20 2 (mI 6), ?_, by rw [show wF b = (1000, 0) from wOut_0 h0 _ _ _]; exact hp, ff⟩
    rw [show fu = 4999 + 1 from rfl, fX6_choosePair_b14, hw.1, if_neg (by decide), if_pos (by rw [show cw b 73 = 0 from h0]; decide)]
  · obtain ⟨M1, m1, p1, f1⟩ := cp_14 hO (by omega) fu 6 0 (1000, 0) _ (by omega) (by decide) ⟨Nat.le_refl _, Nat.zero_le _⟩ hp hw (CX_20 (CX_20 hC _ _) _ _)
    exact ⟨M1, m1, p1, ff.trans f1⟩
theorem we_36 {b : Sb} {M : Mm} {o : Nat} {x : Int32} (hO : OK b) (hM : MK b M) (hW : WM b 73 M) (ho : o < 6) (nx : Int32 → Int32 → Int32 → Int32 → Mm → Option (Int32 × Mm)) : ∀ f r t s, t + r = 12 → r < f → 6 ≤ t → SW s → fX9_weigh_b36 nx f x (en1 s) (nI s.2) (nI o) (nI t) M = nx x (en1 (wIn b o r t s)) (nI (wIn b o r t s).2) (nI (o + 1)) M := by
  intro f
  have h61 := nW_61 hO
  induction f with
  | zero => intro r t s _ h; omega
  | succ f ih =>
    intro r t s ht hr ht6 hs
    rw [fX9_weigh_b36, (WM_n hW)]
    cases r with
    | zero => rw [if_pos (nI_le (by omega) (by omega)), nI_1']; rfl
    | succ r =>
      have h12 : t < 12 := by omega
      have hs2 := wst_SW hO hs (show o < 12 by omega) h12
      have hml := mlN_le hO o t
      have hss := hs.2
      rw [if_neg (nI_ge h12 (by decide)), isOfficer_k hM hO (by omega), bd_s, ib0, isOfficer_k hM hO h12, bd_s, ib0, wIn]
      unfold fX9_weigh_b72 fX9_weigh_b73 fX9_weigh_b96
      rw [if_pos (show nI 0 = nI 0 from rfl), if_neg (show ¬ nI 1 = nI 0 by decide), nI_1', pk_mul, nI_add]
      have no : (decide (0 < nW b) && (th b o && th b t)) = false → wst b s o t = s := fun h => by unfold wst; rw [h]; rfl
      have nn : (decide (0 < nW b) && (th b o && th b t)) = false → fX9_weigh_b36 nx f x (en1 s) (nI s.2) (nI o) (nI (t + 1)) M = nx x (en1 (wIn b o r (t + 1) (wst b s o t))) (nI (wIn b o r (t + 1) (wst b s o t)).2) (nI (o + 1)) M := fun h => by
        rw [no h]; exact ih r (t + 1) s (by omega) (by omega) (by omega) hs
      by_cases h0 : nW b = 0
      · rw [if_pos (by rw [h0]; decide)]
        exact nn (by rw [decide_eq_false (by omega)]; rfl)
      · rw [if_neg (nI_ge (by omega) (by omega))]
        cases h1 : th b o
        · exact nn (by rw [h1]; simp)
        · cases h2 : th b t
          · exact nn (by rw [h2]; simp)
          · have hm := ml_5 hO hM hW ho ht6 h12 h1 h2 fu 0 (by omega) (by have : fu = 5000 := rfl; omega)
            have hm : fX9_mostLeft (nI o) (nI t) M = _ := hm
            have e : wst b s o t = if s.1 = 1000 ∨ mlN b o t < s.2 then (12 * o + t, mlN b o t) else s := by
              unfold wst
              rw [h1, h2, decide_eq_true (by omega)]; rfl
            have i1 := ih r (t + 1) (wst b s o t) (by omega) (by omega) (by omega) hs2
            simp only [if_true]
            rw [hm, bd_s, bd_s]
            have e1 := en1_lt hs
            have e3 : nI s.2 ≤ nI (mlN b o t) ↔ s.2 ≤ mlN b o t := nI_leI (by omega) (by omega)
            have en : en1 (12 * o + t, mlN b o t) = nI (12 * o + t) := if_neg (show ¬ 12 * o + t = 1000 by omega)
            by_cases q : s.1 = 1000
            · rw [if_pos (e1.mpr q)]
              rw [if_pos (Or.inl q)] at e
              rw [e] at i1 ⊢
              rw [en] at i1
              exact i1
            · rw [if_neg (fun z => q (e1.mp z))]
              by_cases q2 : s.2 ≤ mlN b o t
              · rw [if_pos (e3.mpr q2)]
                rw [if_neg (by omega)] at e
                rw [e] at i1 ⊢
                exact i1
              · rw [if_neg (fun z => q2 (e3.mp z)), hm, bd_s]
                rw [if_pos (by omega)] at e
                rw [e] at i1 ⊢
                rw [en] at i1
                exact i1
theorem we_25 {b : Sb} {M : Mm} {x : Int32} (hO : OK b) (hM : MK b M) (hW : WM b 73 M) : ∀ f r o s, o + r = 6 → r < f → SW s → fX9_weigh_b25 f x (en1 s) (nI s.2) (nI o) M = fX9_weigh_b126 x (en1 (wOut b r o s)) (nI (wOut b r o s).2) M := by
  intro f
  induction f with
  | zero => intro r o s _ h; omega
  | succ f ih =>
    intro r o s ho hr hs
    rw [fX9_weigh_b25]
    cases r with
    | zero => rw [if_pos (nI_le (by omega) (by omega))]; rfl
    | succ r =>
      have h6 : o < 6 := by omega
      rw [if_neg (nI_ge h6 (by decide)), we_36 hO hM hW h6 (fX9_weigh_b25 f) fu 6 6 s (by omega) (by decide) (by decide) hs, ih r (o + 1) _ (by omega) (by omega) (wIn_SW hO (by omega) 6 6 s (by omega) hs)]
      rfl
theorem wOut_SW {b : Sb} (hO : OK b) : ∀ r o s, o + r ≤ 6 → SW s → SW (wOut b r o s) := by
  intro r
  induction r with
  | zero => intro o s _ h; exact h
  | succ r ih => intro o s ho h; exact ih (o + 1) _ (by omega) (wIn_SW hO (by omega) 6 6 s (by omega) h)
theorem op_weigh : Op_weigh Rl2 := by
  intro x Mx M_ ⟨⟨S, hS, hX, hM⟩, hZ⟩
  have hO := hS.1
  unfold fX8_weigh fX9_weigh
  rw [isWithin_nI x (a := 0) (b := 1) (by decide) (by decide), bd_s, in_nI x (a := 0) (b := 1) (by decide) (by decide), bd_s, ib0, ib0]
  cases hw : wi x 0 1
  · exact ⟨_, _, _, rfl, rfl, ⟨S, hS, hX, hM⟩, hZ⟩
  obtain ⟨M1, e1, w1, c1, f1⟩ := find_w hO hS.2.1 hX.1 hX.2.1
  obtain ⟨M3, e3, p3, f3⟩ := choose_w hO w1 c1
  obtain ⟨M2, e2, w2, r2⟩ := findWorlds_m hS hM
  have g2 := we_25 (x := x) hO r2.1 w2 fu 6 0 (1000, 0) (by omega) (by decide) ⟨Nat.le_refl _, Nat.zero_le _⟩
  have g2 : fX9_weigh_b25 fu x (mI 6) (nI 0) (nI 0) M2 = _ := g2
  have sw := wOut_SW hO 6 0 (1000, 0) (by omega) ⟨Nat.le_refl _, Nat.zero_le _⟩
  simp only [if_true]
  rw [e1, bd_s, e3, bd_s, e2, bd_s, g2, p3.1, p3.2]
  unfold fX9_weigh_b126
  have hf : F20 Mx M3 := f1.trans f3
  have hrel : Rl2 M3 M2 := ⟨⟨S, hS, RX_fr (fun a ha => hf a (by omega)) hX, r2⟩, by rw [hf 15 (by decide)]; exact hZ.1, by rw [hf 16 (by decide)]; exact hZ.2⟩
  have el := en1_lt sw
  by_cases q : (wF S.1).1 = 1000
  · have e0 : en2 (wF S.1) = en1 (wF S.1) := by unfold en1 en2; rw [if_pos q, if_pos q]
    rw [if_pos (el.mpr q), e0]
    refine ⟨_, _, _, ?_, rfl, hrel⟩
    split <;> rfl
  · have e0 : en2 (wF S.1) = nI (wF S.1).2 := if_neg q
    rw [if_neg (fun z => q (el.mp z)), e0]
    split
    · exact ⟨_, _, _, rfl, rfl, hrel⟩
    · exact ⟨_, _, _, rfl, rfl, hrel⟩
