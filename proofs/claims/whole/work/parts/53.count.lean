/-! how many bits -/
def cnt (f : Nat → Bool) : Nat → Nat
  | 0 => 0
  | n + 1 => cnt f n + (f n).toNat
def pc (n : Nat) : Nat := cnt n.testBit 12
def bcE (x0 : Int32) : Int32 :=
  lt_ (((x0 - ((jushr x0 (nI 1)) &&& (nI 1431655765))) &&& (nI 858993459)) + ((jushr (x0 - ((jushr x0 (nI 1)) &&& (nI 1431655765))) (nI 2)) &&& (nI 858993459))) fun y1 =>
  lt_ (((y1 + (jushr y1 (nI 4))) &&& (nI 252645135)) + (jushr ((y1 + (jushr y1 (nI 4))) &&& (nI 252645135)) (nI 8))) fun y2 =>
  ((y2 + (jushr y2 (nI 16))) &&& (nI 63))
theorem bcE_ok : ∀ a, a < 64 → ∀ b, b < 64 → bcE (nI (a * 64 + b)) = nI (pc (a * 64 + b)) := by decide +kernel
theorem bitCount_n {n : Nat} (hn : n < 4096) (M : Mm) : fJ6_bitCount_0f7a4 (nI n) M = some (nI (pc n), M) := by
  have h := bcE_ok (n / 64) (by omega) (n % 64) (by omega)
  rw [show n / 64 * 64 + n % 64 = n by omega] at h
  rw [← h]
  rfl
def onE : Nat → Int32 → Int32 → Option Int32
  | 0, _, _ => none
  | n + 1, v1, v2 => if v2 = nI 0 then some v1 else onE n (v1 + nI 1) (v2 &&& (v2 - nI 1))
theorem ones_E (M : Mm) : ∀ n v1 v2, fX9_ones_b4 n v1 v2 M = (onE n v1 v2).map (fun r => (r, M)) := by
  intro n
  induction n with
  | zero => intro v1 v2; rfl
  | succ n ih =>
    intro v1 v2
    rw [fX9_ones_b4, onE]
    split
    · rfl
    · exact ih _ _
theorem onE_mono {m : Nat} : ∀ n v1 v2 r, onE n v1 v2 = some r → onE (n + m) v1 v2 = some r := by
  intro n
  induction n with
  | zero => intro v1 v2 r h; cases h
  | succ n ih =>
    intro v1 v2 r h
    rw [show n + 1 + m = (n + m) + 1 by omega]
    rw [onE] at h ⊢
    split
    · rename_i h0
      rw [if_pos h0] at h
      exact h
    · rename_i h0
      rw [if_neg h0] at h
      exact ih _ _ _ h
theorem onE_ok : ∀ a, a < 64 → ∀ b, b < 64 → onE 14 (nI 0) (nI (a * 64 + b)) = some (nI (pc (a * 64 + b))) := by decide +kernel
theorem ones_n {n : Nat} (hn : n < 4096) (M : Mm) : fX9_ones (nI n) M = some (nI (pc n), M) := by
  have h := onE_ok (n / 64) (by omega) (n % 64) (by omega)
  rw [show n / 64 * 64 + n % 64 = n by omega] at h
  unfold fX9_ones
  rw [ones_E, show fu = 14 + 4986 from rfl, onE_mono 14 _ _ _ h]
  rfl
theorem cnt_le (f : Nat → Bool) (n : Nat) : cnt f n ≤ n := by
  induction n with
  | zero => exact Nat.le_refl 0
  | succ n ih => rw [cnt]; have : (f n).toNat ≤ 1 := by cases f n <;> decide
                 omega
theorem pc_le (n : Nat) : pc n ≤ 12 := cnt_le _ _
