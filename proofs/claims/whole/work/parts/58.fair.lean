theorem iI_mul (a b : Int) : iI a * iI b = iI (a * b) := (Int32.ofInt_mul a b).symm
theorem mI_iI (n : Nat) : mI n = iI (-(n : Int)) := by
  show - nI n = _
  rw [iI_nI, iI_neg]
theorem nI_m1 {v : Nat} (h : 1 ≤ v) : nI v + mI 1 = nI (v - 1) := by
  rw [mI_iI, iI_nI v, iI_add, iI_nI (v - 1)]
  congr 1
  omega
/-- the least of 1 to 99 that does, tried from above: d of them are tried -/
def lst (P : Nat → Bool) : Nat → Int32
  | 0 => mI 6
  | d + 1 => if P (99 - d) then nI (99 - d) else lst P d
theorem lst_none {P : Nat → Bool} (h : ∀ v, P v = false) (d : Nat) : lst P d = mI 6 := by
  induction d with
  | zero => rfl
  | succ d ih => rw [lst, h, ih]; rfl
theorem lst_congr {P Q : Nat → Bool} {d : Nat} (hd : d ≤ 99) (h : ∀ v, 1 ≤ v → v ≤ 99 → P v = Q v) : lst P d = lst Q d := by
  induction d with
  | zero => rfl
  | succ d ih => rw [lst, lst, h (99 - d) (by omega) (by omega), ih (by omega)]
def fP (b : Sb) (r v : Nat) : Bool := allE (sRate b r v)
theorem sRate2 (b : Sb) (r u v : Nat) : sRate (sRate b r u) r v = sRate b r v := by
  have : un (un (bw b) r u) r v = un (bw b) r v := by
    funext j
    unfold un
    split <;> rfl
  show ((bp b, bt b, br b, bz b, un (un (bw b) r u) r v), b.2) = _
  rw [this]; rfl
theorem sRate_id (b : Sb) (r u : Nat) : sRate (sRate b r u) r (bw b r) = b := by
  rw [sRate2]
  have : un (bw b) r (bw b r) = bw b := by
    funext j
    unfold un
    split
    · rename_i h; rw [h]
    · rfl
  show ((bp b, bt b, br b, bz b, un (bw b) r (bw b r)), b.2) = _
  rw [this]
theorem sRate_OK {b : Sb} (hO : OK b) (r : Nat) {v : Nat} (h1 : 1 ≤ v) (h2 : v ≤ 99) : OK (sRate b r v) := by
  refine ⟨hO.1, hO.2.1, hO.2.2.1, hO.2.2.2.1, fun k hk => ?_⟩
  show 1 ≤ un (bw b) r v k ∧ un (bw b) r v k ≤ 99
  unfold un
  split
  · exact ⟨h1, h2⟩
  · exact hO.2.2.2.2 k hk
theorem fair_b {S : Sa} (hO : OK S.1) {r : Nat} (hr : r < 6) : ∀ n v u M, v ≤ 99 → v < n → RM (sRate S.1 r u, S.2) M → ∃ M', fX9_fair_b24 n (nI r) (nI (bw S.1 r)) (lst (fP S.1 r) (99 - v)) (nI v) M = some (lst (fP S.1 r) 99, M') ∧ RM S M' := by
  intro n
  induction n with
  | zero => intro v u M h1 h2; omega
  | succ n ih =>
    intro v u M h1 h2 hM
    rw [fX9_fair_b24]
    by_cases hv : v = 0
    · subst hv
      rw [if_pos (by decide), gd_of (inb_nI hr (by decide)), nI_clamp (by omega)]
      refine ⟨_, rfl, ?_⟩
      have h := RM_rate hM r (bw S.1 r)
      rw [sRate_id] at h
      exact h
    · have h := RM_rate hM r v
      rw [sRate2] at h
      rw [if_neg (nI_ge (a := 0) (b := v) (by omega) (by omega)), gd_of (inb_nI hr (by decide)), nI_clamp (by omega), allEven_m h.1 (sRate_OK hO r (by omega) h1), bd_s, ib0, nI_m1 (by omega)]
      have e1 := ih (v - 1) v _ (by omega) (by omega) h
      rw [show 99 - (v - 1) = (99 - v) + 1 by omega, lst, show 99 - (99 - v) = v by omega] at e1
      cases hp : fP S.1 r v
      · rw [hp] at e1
        unfold fP at hp
        rw [hp]
        exact e1
      · rw [hp] at e1
        unfold fP at hp
        rw [hp]
        exact e1
def oG (b : Sb) (r k : Nat) : Int := if op b k = true ∧ ¬ br b k = r then sgn k (wk b k) else 0
def nG (b : Sb) (r k : Nat) : Int := if op b k = true ∧ br b k = r then sgn k 1 else 0
theorem sm_lin {f g h : Nat → Int} {v : Int} {n : Nat} (e : ∀ k, k < n → f k = g k + v * h k) : sm f n = sm g n + v * sm h n := by
  induction n with
  | zero => simp [sm]
  | succ n ih =>
    rw [sm, sm, sm, ih (fun k hk => e k (by omega)), e n (by omega), Int.mul_add]
    omega
theorem ld_rate (b : Sb) (r v : Nat) : ld (sRate b r v) (op (sRate b r v)) = sm (oG b r) 12 + (v : Int) * sm (nG b r) 12 := by
  unfold ld
  apply sm_lin
  intro k hk
  show (if op b k = true then sgn k (un (bw b) r v (br b k) : Nat) else 0) = oG b r k + v * nG b r k
  unfold oG nG un
  by_cases ho : op b k = true
  · by_cases hr : br b k = r
    · rw [if_pos ho, if_pos hr, if_neg (fun z => z.2 hr), if_pos ⟨ho, hr⟩]
      unfold sgn
      split <;> simp
    · rw [if_pos ho, if_neg hr, if_pos ⟨ho, hr⟩, if_neg (fun z => hr z.2)]
      simp [wk]
  · rw [if_neg ho, if_neg (fun z => ho z.1), if_neg (fun z => ho z.1)]
    simp
theorem oG_bd {b : Sb} (hO : OK b) (r : Nat) : -1188 ≤ sm (oG b r) 12 ∧ sm (oG b r) 12 ≤ 1188 := by
  have h := sm_bd (g := oG b r) (n := 12) (fun k hk => by
    have := wk_bd hO hk
    unfold oG sgn
    split
    · split <;> omega
    · omega)
  omega
theorem nG_bd (b : Sb) (r : Nat) : -1188 ≤ sm (nG b r) 12 ∧ sm (nG b r) 12 ≤ 1188 := by
  have h := sm_bd (g := nG b r) (n := 12) (fun k hk => by
    unfold nG sgn
    split
    · split <;> omega
    · omega)
  omega
theorem evenRate_c {c : Nat} {M : Mm} {o m : Int} (ho : -1188 ≤ o ∧ o ≤ 1188) (hm : -1188 ≤ m ∧ m ≤ 1188) : ∀ n d, d ≤ 99 → d < n → fX0_evenRate_b104 c n (iI o) (iI m) (nI (100 - d)) M = some (lst (fun v => decide (o + v * m = 0)) d, M) := by
  intro n
  induction n with
  | zero => intro d h1 h2; omega
  | succ n ih =>
    intro d h1 h2
    rw [fX0_evenRate_b104]
    by_cases hd : d = 0
    · subst hd; rw [if_pos (by decide)]; rfl
    · obtain ⟨e, rfl⟩ : ∃ e, d = e + 1 := ⟨d - 1, by omega⟩
      have hlt : ¬ nI 99 < nI (100 - (e + 1)) := nI_nlt (by omega) (by decide)
      have hb : -2147483648 ≤ o + ((99 - e : Nat) : Int) * m ∧ o + ((99 - e : Nat) : Int) * m ≤ 2147483647 := by
        have h3 : ((99 - e : Nat) : Int) ≤ 99 := by omega
        have h4 : (0 : Int) ≤ ((99 - e : Nat) : Int) := by omega
        have h5 : ((99 - e : Nat) : Int) * m ≤ 99 * 1188 := by
          apply Int.le_trans (Int.mul_le_mul_of_nonneg_left hm.2 h4)
          exact Int.mul_le_mul_of_nonneg_right h3 (by decide)
        have h6 : -(99 * 1188) ≤ ((99 - e : Nat) : Int) * m := by
          have := Int.mul_le_mul_of_nonneg_left hm.1 h4
          have h7 : ((99 - e : Nat) : Int) * 1188 ≤ 99 * 1188 := Int.mul_le_mul_of_nonneg_right h3 (by decide)
          omega
        omega
      rw [if_neg hlt, show 100 - (e + 1) = 99 - e by omega, iI_nI (99 - e), iI_mul, iI_add, lst]
      by_cases hz : o + ((99 - e : Nat) : Int) * m = 0
      · rw [if_pos ((iI_zn hb.1 hb.2).mpr hz), if_pos (decide_eq_true hz), iI_nI]
      · rw [if_neg (fun q => hz ((iI_zn hb.1 hb.2).mp q)), if_neg (by simpa using hz), ← iI_nI, nI_1']
        have := ih e (by omega) (by omega)
        rw [show 99 - e + 1 = 100 - e by omega]
        exact this
theorem evenRate_b {c : Nat} {b : Sb} {M : Mm} (hX : XK c b M) (hO : OK b) {r : Nat} (hr : r < 6) : ∀ n k, k ≤ 12 → 12 < k + n → fX0_evenRate_b15 c n (nI r) (nI (bs (op b) 12)) (iI (sm (oG b r) k)) (iI (sm (nG b r) k)) (nI k) M = some (lst (fun v => decide (sm (oG b r) 12 + v * sm (nG b r) 12 = 0)) 99, M) := by
  intro n
  induction n with
  | zero => intro k h1 h2; omega
  | succ n ih =>
    intro k h1 h2
    rw [fX0_evenRate_b15]
    have hl := bs_lt (op b) 12
    by_cases hk : k = 12
    · subst hk
      rw [if_pos (by decide)]
      exact evenRate_c (oG_bd hO r) (nG_bd b r) fu 99 (by omega) (by decide)
    · have hk' : k < 12 := by omega
      have e1 := ih (k + 1) (by omega) (by omega)
      rw [sm, sm] at e1
      rw [if_neg (nI_ge hk' (by decide)), jbit (by omega) (by omega), ib1, bs_bit, decide_eq_true hk', Bool.true_and]
      have hrk := hO.2.2.1 k hk'
      cases ho : op b k
      · rw [if_neg (by decide), nI_1']
        rw [show oG b r k = 0 by unfold oG; rw [ho]; simp, show nG b r k = 0 by unfold nG; rw [ho]; simp, Int.add_zero, Int.add_zero] at e1
        exact e1
      · rw [if_pos rfl]
        have hgo : ∀ s : Int, s = sgn k 1 → fX0_evenRate_b44 (fX0_evenRate_b15 c n) c (nI r) (nI (bs (op b) 12)) (iI (sm (oG b r) k)) (iI (sm (nG b r) k)) (nI k) (iI s) M = some (lst (fun v => decide (sm (oG b r) 12 + v * sm (nG b r) 12 = 0)) 99, M) := by
          intro s hs
          unfold fX0_evenRate_b44 fX0_evenRate_b65
          rw [gd_of (inb_nI hk' (by decide)), gd_of (inb_nI hk' (by decide)), nI_clamp (by omega), hX.2.2.1 k hk', worth_k hX hO hk', bd_s, nI_1', gd_of (inb_nI hk' (by decide))]
          by_cases hq : br b k = r
          · rw [if_pos (by rw [hq]), if_pos (by rw [hq]), iI_add, show nI 0 = iI 0 from rfl, iI_add, hs]
            rw [show oG b r k = 0 by unfold oG; simp [hq], show nG b r k = sgn k 1 by unfold nG; rw [if_pos ⟨ho, hq⟩]] at e1
            exact e1
          · have hne : ¬ nI (br b k) = nI r := fun z => hq ((nI_eq (by omega) (by omega)).mp z)
            rw [if_neg hne, if_neg hne, show nI 0 = iI 0 from rfl, iI_add, iI_nI (wk b k), bd_s, iI_mul, iI_add, hs]
            rw [show oG b r k = sgn k 1 * (wk b k : Int) by unfold oG sgn; rw [if_pos ⟨ho, hq⟩]; split <;> simp, show nG b r k = 0 by unfold nG; simp [hq]] at e1
            exact e1
        by_cases h6 : k < 6
        · rw [if_neg (nI_ge h6 (by decide)), iI_nI 1]
          exact hgo _ (by simp [sgn, h6])
        · rw [if_pos (nI_le (by omega) (by omega)), mI_iI]
          exact hgo _ (by simp [sgn, h6])
theorem op_fair : Op_fair Rl := by
  intro a1 Mx M_ ⟨S, hS, hX, hM⟩
  have hO := hS.1
  unfold fX8_fair fX9_fair fX0_evenRate
  simp only [isWithin_nI a1 (a := 0) (b := 5) (by decide) (by decide), isRank_x, bothOpen hX.1 hO, crowd7 hX.1 hO, bd_s, ib0]
  cases hw : wi a1 0 5
  · exact ⟨_, _, _, rfl, rfl, S, hS, hX, hM⟩
  obtain ⟨r, _, hr, rfl⟩ := wi_of (by decide) hw
  have hr' : r < 6 := by omega
  simp only [if_true]
  rw [gd_of (inb_nI hr' (by decide)), nI_clamp (by omega), hM.1.2.2.2.2 r hr']
  have hid : RM (sRate S.1 r (bw S.1 r), S.2) M_ := by
    have : sRate S.1 r (bw S.1 r) = S.1 := by
      have h := sRate_id S.1 r (bw S.1 r)
      rw [sRate2] at h
      exact h
    rw [this]; exact hM
  obtain ⟨M', e2, hM'⟩ := fair_b hO hr' fu 99 (bw S.1 r) M_ (by omega) (by decide) hid
  have e2' : fX9_fair_b24 fu (nI r) (nI (bw S.1 r)) (mI 6) (nI 99) M_ = some (lst (fP S.1 r) 99, M') := by
    rw [Nat.sub_self, lst] at e2
    exact e2
  have e3 : fX0_evenRate_b15 1 fu (nI r) (nI (bs (op S.1) 12)) (nI 0) (nI 0) (nI 0) Mx = some (lst (fun v => decide (sm (oG S.1 r) 12 + v * sm (nG S.1 r) 12 = 0)) 99, Mx) := by
    have h := evenRate_b hX.1 hO hr' fu 0 (by omega) (by decide)
    rw [sm, sm, show iI 0 = nI 0 from rfl] at h
    exact h
  rw [e2', e3]
  refine ⟨lst (fP S.1 r) 99, Mx, M', ?_, rfl, S, hS, hX, hM'⟩
  have hall : ∀ v, fP S.1 r v = (!nb S.1 0 6 && (!nb S.1 6 6 && decide (sm (oG S.1 r) 12 + v * sm (nG S.1 r) 12 = 0))) := by
    intro v
    unfold fP allE
    rw [ld_rate]
    rfl
  cases h1 : nb S.1 0 6
  · cases h2 : nb S.1 6 6
    · simp only [Bool.not_false, Bool.true_and, if_true, bd_s]
      rw [lst_congr (P := fP S.1 r) (Q := fun v => decide (sm (oG S.1 r) 12 + v * sm (nG S.1 r) 12 = 0)) (d := 99) (by omega) (fun v _ _ => by rw [hall v, h1, h2]; rfl)]
    · simp only [Bool.not_false, Bool.not_true, Bool.true_and, Bool.false_eq_true, if_false]
      rw [lst_none (fun v => by rw [hall v, h1, h2]; rfl)]
  · simp only [Bool.not_true, Bool.false_and, Bool.false_eq_true, if_false]
    rw [lst_none (fun v => by rw [hall v, h1]; rfl)]
