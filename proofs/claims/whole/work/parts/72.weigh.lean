/-! lots and their worths -/
def Zc (M : Mm) : Prop := M.1 15 0 = nI 0 ∧ M.1 16 0 = nI 0
def Rl2 (Mx M_ : Mm) : Prop := Rl Mx M_ ∧ Zc Mx
def sw (b : Sb) (a l : Nat) : Nat := sN (fun i => if l.testBit i then wk b (a + i) else 0) 6
theorem sN_up {g h : Nat → Nat} {i w : Nat} (h1 : ∀ j, j ≠ i → h j = g j) (h2 : h i = g i + w) : ∀ n, sN h n = sN g n + (if i < n then w else 0) := by
  intro n
  induction n with
  | zero => simp [sN]
  | succ n ih =>
    rw [sN, sN, ih]
    by_cases e : n = i
    · subst e
      rw [h2, if_neg (by omega), if_pos (by omega)]; omega
    · rw [h1 n e]
      by_cases q : i < n
      · rw [if_pos q, if_pos (by omega)]; omega
      · rw [if_neg q, if_neg (by omega)]; omega
theorem bit_add {l i : Nat} (hl : l < 2 ^ i) (j : Nat) : (l + 2 ^ i).testBit j = (decide (i = j) || l.testBit j) := by
  have e := Nat.two_pow_add_eq_or_of_lt hl 1
  rw [Nat.mul_one] at e
  rw [Nat.add_comm, e, Nat.testBit_or, Nat.testBit_two_pow]
theorem sw_add {b : Sb} {a l i : Nat} (hi : i < 6) (hl : l < 2 ^ i) : sw b a (l + 2 ^ i) = sw b a l + wk b (a + i) := by
  unfold sw
  have h := sN_up (g := fun j => if l.testBit j then wk b (a + j) else 0) (h := fun j => if (l + 2 ^ i).testBit j then wk b (a + j) else 0) (i := i) (w := wk b (a + i)) (fun j hj => by
    show (if (l + 2 ^ i).testBit j = true then _ else _) = _
    rw [bit_add hl, decide_eq_false (Ne.symm hj), Bool.false_or]) (by
    show (if (l + 2 ^ i).testBit i = true then _ else _) = (if l.testBit i = true then _ else _) + _
    rw [bit_add hl, decide_eq_true rfl, Bool.true_or, Nat.testBit_lt_two_pow hl]
    simp) 6
  rw [if_pos hi] at h
  exact h
theorem sl_28 {b : Sb} {a c c0 i : Nat} (nx : Int32 → Int32 → Mm → Option (Unit × Mm)) (v1 : Int32) (hi : i < 6) : ∀ f l M, l ≤ 2 ^ i → 2 ^ i < l + f → (∀ x, x < 2 ^ i + l → M.1 c x = nI (sw b a x)) → ∃ M', fX2_sumLots_b28 nx c0 c f v1 (nI i) (nI (wk b (a + i))) (nI (2 ^ i)) (nI l) M = nx v1 (nI (i + 1)) M' ∧ (∀ x, x < 2 ^ (i + 1) → M'.1 c x = nI (sw b a x)) ∧ ∀ d, d ≠ c → M'.1 d = M.1 d := by
  intro f
  have hP : 2 ^ i ≤ 2 ^ 5 := Nat.pow_le_pow_right (by decide) (by omega)
  have hP0 : 0 < 2 ^ i := Nat.pow_pos (by decide)
  induction f with
  | zero => intro l M h1 h2; omega
  | succ f ih =>
    intro l M h1 h2 h
    rw [fX2_sumLots_b28]
    by_cases hl : l = 2 ^ i
    · subst hl
      rw [if_pos (nI_le (Nat.le_refl _) (by omega)), nI_1']
      exact ⟨M, rfl, fun x hx => h x (by rw [Nat.pow_succ] at hx; omega), fun _ _ => rfl⟩
    · have hl' : l < 2 ^ i := by omega
      rw [if_neg (nI_ge hl' (by omega)), nI_add, gd_of (inb_nI (by omega) (by decide)), gd_of (inb_nI (by omega) (by decide)), nI_clamp (by omega), nI_clamp (by omega), nI_1', h l (by omega), nI_add, ← sw_add hi hl']
      obtain ⟨M1, e1, c1, f1⟩ := ih (l + 1) (sI M c (l + 2 ^ i) (nI (sw b a (l + 2 ^ i)))) (by omega) (by omega) (fun x hx => by
        rw [sI_g]
        by_cases e : x = l + 2 ^ i
        · rw [if_pos ⟨rfl, e⟩, e]
        · rw [if_neg (fun z => e z.2)]; exact h x (by omega))
      exact ⟨M1, e1, c1, fun d hd => by rw [f1 d hd, sI_n hd]⟩
theorem sl_2 {b : Sb} {c s : Nat} (hO : OK b) (hs : s < 2) (hc : 4 < c) : ∀ f i M, i ≤ 6 → 6 < i + f → XK 1 b M → (∀ x, x < 2 ^ i → M.1 c x = nI (sw b (s * 6) x)) → ∃ M', fX2_sumLots_b2 1 c f (nI s) (nI i) M = some ((), M') ∧ (∀ x, x < 64 → M'.1 c x = nI (sw b (s * 6) x)) ∧ ∀ d, d ≠ c → M'.1 d = M.1 d := by
  intro f
  induction f with
  | zero => intro i M h1 h2; omega
  | succ f ih =>
    intro i M h1 h2 hX h
    rw [fX2_sumLots_b2]
    by_cases hi : i = 6
    · subst hi
      rw [if_pos (by decide)]
      exact ⟨M, rfl, h, fun _ _ => rfl⟩
    · have hi' : i < 6 := by omega
      have hP : 2 ^ i ≤ 2 ^ 5 := Nat.pow_le_pow_right (by decide) (by omega)
      rw [if_neg (nI_ge hi' (by decide)), pk_mul, nI_add, worth_k hX hO (by omega), bd_s, j2k (by omega)]
      obtain ⟨M1, e1, c1, f1⟩ := sl_28 (b := b) (a := s * 6) (c := c) (c0 := 1) (fX2_sumLots_b2 1 c f) (nI s) hi' fu 0 M (Nat.zero_le _) (by have : fu = 5000 := rfl; omega) (fun x hx => h x (by omega))
      obtain ⟨M2, e2, c2, f2⟩ := ih (i + 1) M1 (by omega) (by omega) (XK_fr (fun d h1 h2 => f1 d (by omega)) hX) c1
      rw [e1, e2]
      exact ⟨M2, rfl, c2, fun d hd => by rw [f2 d hd, f1 d hd]⟩
abbrev OO (b : Sb) : Nat := bs (op b) 6
abbrev TT (b : Sb) : Nat := bs (fun k => op b (6 + k)) 6
def WL (b : Sb) (M : Mm) : Prop := M.1 14 2 = nI (OO b) ∧ M.1 14 3 = nI (TT b) ∧ (∀ x, x < 64 → M.1 15 x = nI (sw b 0 x)) ∧ ∀ x, x < 64 → M.1 16 x = nI (sw b 6 x)
theorem sw_0 (b : Sb) (a : Nat) : sw b a 0 = 0 := by
  unfold sw
  simp [sN]
theorem WL_Zc {b : Sb} {M : Mm} (h : WL b M) : Zc M := ⟨by rw [h.2.2.1 0 (by decide), sw_0], by rw [h.2.2.2 0 (by decide), sw_0]⟩
def FrW (M M' : Mm) : Prop := ∀ a, ¬ (14 ≤ a ∧ a ≤ 16) → M'.1 a = M.1 a
theorem weighLots_c {b : Sb} {M : Mm} (hX : XK 1 b M) (hO : OK b) (hZ : Zc M) : ∃ M', fX2_weighLots 1 M = some ((), M') ∧ WL b M' ∧ FrW M M' := by
  unfold fX2_weighLots fX2_sumLots
  have x1 : XK 1 b (sI M 14 2 (nI (OO b))) := XK_fr (fun a h1 h2 => sI_n (by omega)) hX
  have x2 : XK 1 b (sI (sI M 14 2 (nI (OO b))) 14 3 (nI (TT b))) := XK_fr (fun a h1 h2 => sI_n (by omega)) x1
  rw [lotIn_0 hX hO, bd_s, lotIn_1 x1 hO, bd_s]
  obtain ⟨M1, e1, c1, f1⟩ := sl_2 (c := 15) (s := 0) hO (by decide) (by decide) fu 0 _ (by omega) (by decide) x2 (fun x hx => by
    have : x = 0 := by simpa using hx
    subst this
    rw [sI_n (by decide), sI_n (by decide), sw_0]; exact hZ.1)
  obtain ⟨M2, e2, c2, f2⟩ := sl_2 (c := 16) (s := 1) hO (by decide) (by decide) fu 0 M1 (by omega) (by decide) (XK_fr (fun a h1 h2 => f1 a (by omega)) x2) (fun x hx => by
    have : x = 0 := by simpa using hx
    subst this
    rw [f1 16 (by decide), sI_n (by decide), sI_n (by decide), sw_0]; exact hZ.2)
  rw [e1, bd_s, e2, bd_s]
  refine ⟨M2, rfl, ⟨?_, ?_, fun x hx => ?_, c2⟩, fun a ha => ?_⟩
  · rw [f2 14 (by decide), f1 14 (by decide), sI_j _ (by decide), sI_s]
  · rw [f2 14 (by decide), f1 14 (by decide), sI_s]
  · rw [f2 15 (by decide)]; exact c1 x hx
  · rw [f2 a (by omega), f1 a (by omega), sI_n (by omega), sI_n (by omega)]
/-! the best exchange -/
def ky (m : Bool) (o t : Nat) : Nat := ((if m then (6 - pc o) * 8 + pc t else pc t * 8 + pc o) * 64 + o) * 64 + t
def TP : Nat := 1048576
theorem pc_6 {o : Nat} (h : o < 64) : pc o ≤ 6 := by
  rw [← pc6_ok o h]
  have := pc6_lt o
  omega
theorem ky_lt {m : Bool} {o t : Nat} (ho : o < 64) (ht : t < 64) : ky m o t < 1000000 := by
  unfold ky
  have h1 := pc_6 ho
  have h2 := pc_6 ht
  cases m
  · simp only [Bool.false_eq_true, if_false]; omega
  · simp only [if_true]; omega
theorem order_k {m : Bool} {o t : Nat} (ho : o < 64) (ht : t < 64) (M : Mm) : fX2_order (nI o) (nI t) (nI m.toNat) M = some (nI (ky m o t), M) := by
  unfold fX2_order fX2_order_b35 ky
  have h1 := pc_6 ho
  have h2 := pc_6 ht
  rw [bitCount_n (by omega), bd_s, bitCount_n (by omega), bd_s, ib0, pk_sub h1]
  simp only [pk_mul, nI_add]
  cases m <;> rfl
def vT (b : Sb) (o t : Nat) : Bool := decide (dif t (TT b) = 0) && decide (sw b 6 t = sw b 0 o)
def fT (m : Bool) (b : Sb) (o : Nat) : Nat → Nat → Nat → Nat
  | 0, _, c => c
  | r + 1, t, c => fT m b o r (t + 1) (if vT b o t then min c (ky m o t) else c)
def vO (b : Sb) (w o : Nat) : Bool := decide (dif o (OO b) = 0) && decide (dif w o = 0)
def fO (m : Bool) (b : Sb) (w : Nat) : Nat → Nat → Nat → Nat
  | 0, _, c => c
  | r + 1, o, c => fO m b w r (o + 1) (if vO b w o then fT m b o 63 1 c else c)
theorem fT_min (m : Bool) (b : Sb) (o : Nat) : ∀ r t a c, fT m b o r t (min a c) = min a (fT m b o r t c) := by
  intro r
  induction r with
  | zero => intro t a c; rfl
  | succ r ih =>
    intro t a c
    rw [fT, fT]
    split
    · rw [Nat.min_assoc, ih]
    · exact ih _ _ _
theorem fT_le (m : Bool) (b : Sb) (o : Nat) : ∀ r t c, fT m b o r t c ≤ c := by
  intro r
  induction r with
  | zero => intro t c; exact Nat.le_refl _
  | succ r ih =>
    intro t c
    rw [fT]
    split
    · exact Nat.le_trans (ih _ _) (Nat.min_le_left _ _)
    · exact ih _ _
theorem sw_le {b : Sb} (hO : OK b) {a : Nat} (ha : a ≤ 6) (l : Nat) : sw b a l ≤ 6 * 99 := by
  unfold sw
  have : ∀ n, n ≤ 6 → sN (fun i => if l.testBit i then wk b (a + i) else 0) n ≤ n * 99 := by
    intro n
    induction n with
    | zero => intro _; simp [sN]
    | succ n ih =>
      intro h
      have := ih (by omega)
      have := (wk_bd hO (k := a + n) (by omega)).2
      rw [sN, Nat.succ_mul]
      show sN _ n + (if l.testBit n = true then wk b (a + n) else 0) ≤ _
      split <;> omega
  exact this 6 (Nat.le_refl _)
theorem bw_6 {m : Bool} {b : Sb} {M : Mm} {o : Nat} (hO : OK b) (hW : WL b M) (ho : o < 64) : ∀ f r t c, t + r = 64 → r < f → c ≤ TP → fX2_bestWith_b6 f (nI o) (nI m.toNat) (nI c) (nI t) M = some (nI (fT m b o r t c), M) := by
  intro f
  induction f with
  | zero => intro r t c _ h; omega
  | succ f ih =>
    intro r t c ht hr hc
    have hT : TP = 1048576 := rfl
    rw [fX2_bestWith_b6]
    cases r with
    | zero => rw [if_pos (nI_le (by omega) (by omega))]; rfl
    | succ r =>
      have h64 : t < 64 := by omega
      have hd : dif t (TT b) < 2 ^ 6 := dif_lt (by simpa using h64)
      have e1 : nI (dif t (TT b)) = nI 0 ↔ dif t (TT b) = 0 := nI_z (by omega)
      have s1 := sw_le hO (a := 0) (by omega) o
      have s2 := sw_le hO (a := 6) (by omega) t
      have e2 : nI (sw b 6 t) = nI (sw b 0 o) ↔ sw b 6 t = sw b 0 o := nI_eq (by omega) (by omega)
      have hk := ky_lt (m := m) ho h64
      rw [if_neg (nI_ge h64 (by decide)), hW.2.1, nI_dif, gd_of (inb_nI h64 (by decide)), gd_of (inb_nI ho (by decide)), nI_clamp (by omega), nI_clamp (by omega), hW.2.2.1 o ho, hW.2.2.2 t h64, order_k ho h64, bd_s, jmin_nI (by omega) (by omega), nI_1', fT]
      simp only [e1, e2]
      unfold vT
      by_cases q1 : dif t (TT b) = 0
      · rw [if_pos q1, decide_eq_true q1, Bool.true_and]
        by_cases q2 : sw b 6 t = sw b 0 o
        · rw [if_pos q2, if_pos (decide_eq_true q2)]
          exact ih r (t + 1) _ (by omega) (by omega) (Nat.le_trans (Nat.min_le_left _ _) hc)
        · rw [if_neg q2, if_neg (by simpa using q2)]
          exact ih r (t + 1) _ (by omega) (by omega) hc
      · rw [if_neg q1, decide_eq_false q1, Bool.false_and, if_neg (by decide)]
        exact ih r (t + 1) _ (by omega) (by omega) hc
theorem and_dif {o w : Nat} : o &&& w = w ↔ dif w o = 0 := by
  rw [dif_zero]
  constructor
  · intro h i hi
    rw [← h, Nat.testBit_and, Bool.and_eq_true] at hi
    exact hi.1
  · intro h
    apply Nat.eq_of_testBit_eq
    intro i
    rw [Nat.testBit_and]
    cases hb : w.testBit i
    · simp
    · rw [h i hb]; rfl
theorem find_12 {m : Bool} {b : Sb} {M : Mm} {w : Nat} (hO : OK b) (hW : WL b M) (hw : w < 64) : ∀ f r o c, o + r = 64 → r < f → c ≤ TP → fX2_find_b12 1 f (nI w) (nI m.toNat) (nI c) (nI o) M = fX2_find_b59 1 (nI (fO m b w r o c)) M := by
  intro f
  induction f with
  | zero => intro r o c _ h; omega
  | succ f ih =>
    intro r o c ho hr hc
    have hT : TP = 1048576 := rfl
    rw [fX2_find_b12]
    cases r with
    | zero => rw [if_pos (nI_le (by omega) (by omega))]; rfl
    | succ r =>
      have h64 : o < 64 := by omega
      have hd : dif o (OO b) < 2 ^ 6 := dif_lt (by simpa using h64)
      have e1 : nI (dif o (OO b)) = nI 0 ↔ dif o (OO b) = 0 := nI_z (by omega)
      have ha : o &&& w ≤ w := Nat.and_le_right
      have e2 : nI (o &&& w) = nI w ↔ dif w o = 0 := by rw [nI_eq (by omega) (by omega), and_dif]
      have hb := bw_6 (m := m) hO hW h64 fu 63 1 TP (by omega) (by decide) (Nat.le_refl _)
      have hl := fT_le m b o 63 1 TP
      have hmn := fT_min m b o 63 1 c TP
      rw [Nat.min_eq_left hc] at hmn
      unfold fX2_bestWith
      rw [if_neg (nI_ge h64 (by decide)), hW.1, nI_dif, nI_and, show nI 1048576 = nI TP from rfl, hb, bd_s, jmin_nI (by omega) (by omega), ← hmn, nI_1', fO]
      simp only [e1, e2]
      unfold vO
      by_cases q1 : dif o (OO b) = 0
      · rw [if_pos q1, decide_eq_true q1, Bool.true_and]
        by_cases q2 : dif w o = 0
        · rw [if_pos q2, if_pos (decide_eq_true q2)]
          exact ih r (o + 1) _ (by omega) (by omega) (Nat.le_trans (fT_le _ _ _ _ _ _) hc)
        · rw [if_neg q2, if_neg (by simpa using q2)]
          exact ih r (o + 1) _ (by omega) (by omega) hc
      · rw [if_neg q1, decide_eq_false q1, Bool.false_and, if_neg (by decide)]
        exact ih r (o + 1) _ (by omega) (by omega) hc
def bestO (A : Nat) : Nat := if A = TP then 0 else A / 64 % 64
def bestT (A : Nat) : Nat := if A = TP then 0 else A % 64
theorem fO_le (m : Bool) (b : Sb) (w : Nat) : ∀ r o c, fO m b w r o c ≤ c := by
  intro r
  induction r with
  | zero => intro o c; exact Nat.le_refl _
  | succ r ih =>
    intro o c
    rw [fO]
    split
    · exact Nat.le_trans (ih _ _) (fT_le _ _ _ _ _ _)
    · exact ih _ _
abbrev bA (m : Bool) (b : Sb) (w : Nat) : Nat := fO m b w 63 1 TP
theorem find_c {m : Bool} {b : Sb} {M : Mm} {w : Nat} (hX : XK 1 b M) (hO : OK b) (hZ : Zc M) (hw : w < 64) : ∃ M', fX2_find 1 (nI w) (nI m.toNat) M = some ((), M') ∧ M'.1 14 0 = nI (bestO (bA m b w)) ∧ M'.1 14 1 = nI (bestT (bA m b w)) ∧ FrW M M' ∧ Zc M' := by
  unfold fX2_find
  obtain ⟨M1, e1, w1, f1⟩ := weighLots_c hX hO hZ
  have h := find_12 (m := m) hO w1 hw fu 63 1 TP (by omega) (by decide) (Nat.le_refl _)
  have hl := fO_le m b w 63 1 TP
  have hT : TP = 1048576 := rfl
  rw [e1, bd_s, show nI 1048576 = nI TP from rfl, h]
  have z1 := WL_Zc w1
  unfold bA
  generalize fO m b w 63 1 TP = A at hl
  unfold fX2_find_b59 fX2_find_b71 fX2_find_b91 bestO bestT
  have e : nI A = nI 1048576 ↔ A = TP := nI_eq (by omega) (by omega)
  by_cases q : A = TP
  · rw [if_pos (e.mpr q), if_pos rfl, if_pos rfl, if_pos q, if_pos q]
    exact ⟨_, rfl, by rw [sI_j _ (by decide), sI_s], sI_s _ _ _ _, fun a ha => by rw [sI_n (by omega), sI_n (by omega), f1 a ha], by rw [sI_n (by decide), sI_n (by decide)]; exact z1.1, by rw [sI_n (by decide), sI_n (by decide)]; exact z1.2⟩
  · rw [if_neg (fun z => q (e.mp z)), if_neg (by decide), if_neg (by decide), if_neg q, if_neg q, pk_div (by omega) (by decide) (by decide), jrem_nI (by omega) (by decide) (by decide), jrem_nI (by omega) (by decide) (by decide)]
    exact ⟨_, rfl, by rw [sI_j _ (by decide), sI_s], sI_s _ _ _ _, fun a ha => by rw [sI_n (by omega), sI_n (by omega), f1 a ha], by rw [sI_n (by decide), sI_n (by decide)]; exact z1.1, by rw [sI_n (by decide), sI_n (by decide)]; exact z1.2⟩
