/-! the cells (15, 0) and (16, 0) stay -/
def Pz {α : Type} (x : Option (α × Mm)) : Prop := ∀ r M, x = some (r, M) → Zc M
theorem Pz_none {α : Type} : Pz (none : Option (α × Mm)) := fun _ _ h => by cases h
theorem Pz_some {α : Type} {r : α} {M : Mm} (h : Zc M) : Pz (some (r, M)) := fun _ _ e => by cases e; exact h
theorem Pz_gd {α : Type} {b : Bool} {x : Option (α × Mm)} (h : Pz x) : Pz (gd b x) := by
  cases b
  · exact Pz_none
  · exact h
theorem Pz_bd {α β : Type} {x : Option (α × Mm)} {f : α → Mm → Option (β × Mm)} (h : Pz x) (k : ∀ r M, Zc M → Pz (f r M)) : Pz (bd x f) := by
  cases hx : x with
  | none => exact Pz_none
  | some p => exact k p.1 p.2 (h p.1 p.2 hx)
theorem Pz_ite {α : Type} {p : Prop} [Decidable p] {x y : Option (α × Mm)} (h : Pz x) (g : Pz y) : Pz (if p then x else y) := by
  split
  · exact h
  · exact g
theorem Pz_lt {α β : Type} {x : α} {f : α → Option (β × Mm)} (h : Pz (f x)) : Pz (lt_ x f) := h
theorem Zc_sI {M : Mm} {c k : Nat} {v : Int32} (h : Zc M) (hc : ¬ (c = 15 ∨ c = 16)) : Zc (sI M c k v) := ⟨by rw [sI_n (by omega)]; exact h.1, by rw [sI_n (by omega)]; exact h.2⟩
theorem Zc_sL {M : Mm} {c k : Nat} {v : Int64} (h : Zc M) : Zc (sL M c k v) := h
theorem Zc_cpI {M : Mm} {c d n : Nat} (h : Zc M) (hc : ¬ (d = 15 ∨ d = 16)) : Zc (cpI M c d n) := ⟨by rw [cpI_n (by omega)]; exact h.1, by rw [cpI_n (by omega)]; exact h.2⟩
theorem imgC_r (x : Int32) : imgC x ≤ 10 ∨ 17 ≤ imgC x := by
  unfold imgC
  split <;> decide
theorem z_fX8_isWithin {x0 : Int32} {x1 : Int32} {x2 : Int32} {M : Mm} (h : Zc M) : Pz (fX8_isWithin x0 x1 x2 M) := by
  unfold fX8_isWithin
  repeat' first | assumption | with_reducible exact Pz_none | with_reducible refine Pz_some ?_ | with_reducible refine Pz_ite ?_ ?_ | with_reducible refine Pz_gd ?_ | with_reducible refine Pz_bd ?_ (fun _ _ _ => ?_) | with_reducible refine Pz_lt ?_ | with_reducible refine Zc_sI ?_ (by omega) | with_reducible refine Zc_sL ?_ | with_reducible refine Zc_cpI ?_ (by omega)
theorem z_fX0_enter {c0 : Nat} {x1 : Int32} {x2 : Int32} {M : Mm} (hc0 : c0 ≤ 10 ∨ 17 ≤ c0) (h : Zc M) : Pz (fX0_enter c0 x1 x2 M) := by
  unfold fX0_enter
  repeat' first | assumption | with_reducible exact Pz_none | with_reducible refine Pz_some ?_ | with_reducible refine Pz_ite ?_ ?_ | with_reducible refine Pz_gd ?_ | with_reducible refine Pz_bd ?_ (fun _ _ _ => ?_) | with_reducible refine Pz_lt ?_ | with_reducible refine Zc_sI ?_ (by omega) | with_reducible refine Zc_sL ?_ | with_reducible refine Zc_cpI ?_ (by omega)
theorem z_fJ6_bitCount_0f7a4 {x0 : Int32} {M : Mm} (h : Zc M) : Pz (fJ6_bitCount_0f7a4 x0 M) := by
  unfold fJ6_bitCount_0f7a4
  repeat' first | assumption | with_reducible exact Pz_none | with_reducible refine Pz_some ?_ | with_reducible refine Pz_ite ?_ ?_ | with_reducible refine Pz_gd ?_ | with_reducible refine Pz_bd ?_ (fun _ _ _ => ?_) | with_reducible refine Pz_lt ?_ | with_reducible refine Zc_sI ?_ (by omega) | with_reducible refine Zc_sL ?_ | with_reducible refine Zc_cpI ?_ (by omega)
theorem z_fX8_officer {x1 : Int32} {x2 : Int32} {M : Mm} (h : Zc M) : Pz (fX8_officer x1 x2 M) := by
  unfold fX8_officer
  repeat' first | assumption | exact imgC_r _ | omega | with_reducible refine z_fX8_isWithin ?_ | with_reducible refine z_fX0_enter ?_ ?_ | with_reducible refine z_fJ6_bitCount_0f7a4 ?_ | with_reducible exact Pz_none | with_reducible refine Pz_some ?_ | with_reducible refine Pz_ite ?_ ?_ | with_reducible refine Pz_gd ?_ | with_reducible refine Pz_bd ?_ (fun _ _ _ => ?_) | with_reducible refine Pz_lt ?_ | with_reducible refine Zc_sI ?_ (by omega) | with_reducible refine Zc_sL ?_ | with_reducible refine Zc_cpI ?_ (by omega)
theorem z_fX0_isThere {c0 : Nat} {x1 : Int32} {M : Mm} (hc0 : c0 ≤ 10 ∨ 17 ≤ c0) (h : Zc M) : Pz (fX0_isThere c0 x1 M) := by
  unfold fX0_isThere
  repeat' first | assumption | with_reducible exact Pz_none | with_reducible refine Pz_some ?_ | with_reducible refine Pz_ite ?_ ?_ | with_reducible refine Pz_gd ?_ | with_reducible refine Pz_bd ?_ (fun _ _ _ => ?_) | with_reducible refine Pz_lt ?_ | with_reducible refine Zc_sI ?_ (by omega) | with_reducible refine Zc_sL ?_ | with_reducible refine Zc_cpI ?_ (by omega)
theorem z_fX8_leave {x1 : Int32} {M : Mm} (h : Zc M) : Pz (fX8_leave x1 M) := by
  unfold fX8_leave
  repeat' first | assumption | exact imgC_r _ | omega | with_reducible refine z_fX0_isThere ?_ ?_ | with_reducible refine z_fJ6_bitCount_0f7a4 ?_ | with_reducible exact Pz_none | with_reducible refine Pz_some ?_ | with_reducible refine Pz_ite ?_ ?_ | with_reducible refine Pz_gd ?_ | with_reducible refine Pz_bd ?_ (fun _ _ _ => ?_) | with_reducible refine Pz_lt ?_ | with_reducible refine Zc_sI ?_ (by omega) | with_reducible refine Zc_sL ?_ | with_reducible refine Zc_cpI ?_ (by omega)
theorem z_fX8_rate {x1 : Int32} {x2 : Int32} {M : Mm} (h : Zc M) : Pz (fX8_rate x1 x2 M) := by
  unfold fX8_rate
  repeat' first | assumption | with_reducible refine z_fX8_isWithin ?_ | with_reducible exact Pz_none | with_reducible refine Pz_some ?_ | with_reducible refine Pz_ite ?_ ?_ | with_reducible refine Pz_gd ?_ | with_reducible refine Pz_bd ?_ (fun _ _ _ => ?_) | with_reducible refine Pz_lt ?_ | with_reducible refine Zc_sI ?_ (by omega) | with_reducible refine Zc_sL ?_ | with_reducible refine Zc_cpI ?_ (by omega)
theorem z_fX8_trust {x1 : Int32} {M : Mm} (h : Zc M) : Pz (fX8_trust x1 M) := by
  unfold fX8_trust
  repeat' first | assumption | with_reducible refine z_fX8_isWithin ?_ | with_reducible exact Pz_none | with_reducible refine Pz_some ?_ | with_reducible refine Pz_ite ?_ ?_ | with_reducible refine Pz_gd ?_ | with_reducible refine Pz_bd ?_ (fun _ _ _ => ?_) | with_reducible refine Pz_lt ?_ | with_reducible refine Zc_sI ?_ (by omega) | with_reducible refine Zc_sL ?_ | with_reducible refine Zc_cpI ?_ (by omega)
theorem z_fX4_write {x1 : Int32} {M : Mm} (h : Zc M) : Pz (fX4_write x1 M) := by
  unfold fX4_write
  repeat' first | assumption | with_reducible exact Pz_none | with_reducible refine Pz_some ?_ | with_reducible refine Pz_ite ?_ ?_ | with_reducible refine Pz_gd ?_ | with_reducible refine Pz_bd ?_ (fun _ _ _ => ?_) | with_reducible refine Pz_lt ?_ | with_reducible refine Zc_sI ?_ (by omega) | with_reducible refine Zc_sL ?_ | with_reducible refine Zc_cpI ?_ (by omega)
theorem z_fX8_say {x1 : Int32} {M : Mm} (h : Zc M) : Pz (fX8_say x1 M) := by
  unfold fX8_say
  repeat' first | assumption | with_reducible refine z_fX8_isWithin ?_ | with_reducible refine z_fX4_write ?_ | with_reducible exact Pz_none | with_reducible refine Pz_some ?_ | with_reducible refine Pz_ite ?_ ?_ | with_reducible refine Pz_gd ?_ | with_reducible refine Pz_bd ?_ (fun _ _ _ => ?_) | with_reducible refine Pz_lt ?_ | with_reducible refine Zc_sI ?_ (by omega) | with_reducible refine Zc_sL ?_ | with_reducible refine Zc_cpI ?_ (by omega)
theorem z_fX8_wipe {M : Mm} (h : Zc M) : Pz (fX8_wipe M) := by
  unfold fX8_wipe
  repeat' first | assumption | with_reducible exact Pz_none | with_reducible refine Pz_some ?_ | with_reducible refine Pz_ite ?_ ?_ | with_reducible refine Pz_gd ?_ | with_reducible refine Pz_bd ?_ (fun _ _ _ => ?_) | with_reducible refine Pz_lt ?_ | with_reducible refine Zc_sI ?_ (by omega) | with_reducible refine Zc_sL ?_ | with_reducible refine Zc_cpI ?_ (by omega)
theorem z_fX4_officerOf {x0 : Int32} {M : Mm} (h : Zc M) : Pz (fX4_officerOf x0 M) := by
  unfold fX4_officerOf
  repeat' first | assumption | with_reducible refine z_fX8_isWithin ?_ | with_reducible exact Pz_none | with_reducible refine Pz_some ?_ | with_reducible refine Pz_ite ?_ ?_ | with_reducible refine Pz_gd ?_ | with_reducible refine Pz_bd ?_ (fun _ _ _ => ?_) | with_reducible refine Pz_lt ?_ | with_reducible refine Zc_sI ?_ (by omega) | with_reducible refine Zc_sL ?_ | with_reducible refine Zc_cpI ?_ (by omega)
theorem z_fX4_deedOf {x0 : Int32} {M : Mm} (h : Zc M) : Pz (fX4_deedOf x0 M) := by
  unfold fX4_deedOf
  repeat' first | assumption | with_reducible exact Pz_none | with_reducible refine Pz_some ?_ | with_reducible refine Pz_ite ?_ ?_ | with_reducible refine Pz_gd ?_ | with_reducible refine Pz_bd ?_ (fun _ _ _ => ?_) | with_reducible refine Pz_lt ?_ | with_reducible refine Zc_sI ?_ (by omega) | with_reducible refine Zc_sL ?_ | with_reducible refine Zc_cpI ?_ (by omega)
theorem z_fX4_next_b32 {v0 : Int32} {v1 : Int32} {v2 : Int32} {v3 : Int32} {s0 : Int32} {M : Mm} (h : Zc M) : Pz (fX4_next_b32 v0 v1 v2 v3 s0 M) := by
  unfold fX4_next_b32
  repeat' first | assumption | with_reducible refine z_fX4_deedOf ?_ | with_reducible exact Pz_none | with_reducible refine Pz_some ?_ | with_reducible refine Pz_ite ?_ ?_ | with_reducible refine Pz_gd ?_ | with_reducible refine Pz_bd ?_ (fun _ _ _ => ?_) | with_reducible refine Pz_lt ?_ | with_reducible refine Zc_sI ?_ (by omega) | with_reducible refine Zc_sL ?_ | with_reducible refine Zc_cpI ?_ (by omega)
theorem z_fX4_next_b20 {v0 : Int32} {v1 : Int32} {v2 : Int32} {s0 : Int32} {M : Mm} (h : Zc M) : Pz (fX4_next_b20 v0 v1 v2 s0 M) := by
  unfold fX4_next_b20
  repeat' first | assumption | with_reducible refine z_fX4_next_b32 ?_ | with_reducible exact Pz_none | with_reducible refine Pz_some ?_ | with_reducible refine Pz_ite ?_ ?_ | with_reducible refine Pz_gd ?_ | with_reducible refine Pz_bd ?_ (fun _ _ _ => ?_) | with_reducible refine Pz_lt ?_ | with_reducible refine Zc_sI ?_ (by omega) | with_reducible refine Zc_sL ?_ | with_reducible refine Zc_cpI ?_ (by omega)
theorem z_fX4_next_b19 {v0 : Int32} {v1 : Int32} {v2 : Int32} {M : Mm} (h : Zc M) : Pz (fX4_next_b19 v0 v1 v2 M) := by
  unfold fX4_next_b19
  repeat' first | assumption | with_reducible refine z_fX4_next_b20 ?_ | with_reducible exact Pz_none | with_reducible refine Pz_some ?_ | with_reducible refine Pz_ite ?_ ?_ | with_reducible refine Pz_gd ?_ | with_reducible refine Pz_bd ?_ (fun _ _ _ => ?_) | with_reducible refine Pz_lt ?_ | with_reducible refine Zc_sI ?_ (by omega) | with_reducible refine Zc_sL ?_ | with_reducible refine Zc_cpI ?_ (by omega)
theorem z_fX4_next {x0 : Int32} {x1 : Int32} {M : Mm} (h : Zc M) : Pz (fX4_next x0 x1 M) := by
  unfold fX4_next
  repeat' first | assumption | with_reducible refine z_fX4_officerOf ?_ | with_reducible refine z_fX4_next_b19 ?_ | with_reducible refine z_fX4_next_b20 ?_ | with_reducible exact Pz_none | with_reducible refine Pz_some ?_ | with_reducible refine Pz_ite ?_ ?_ | with_reducible refine Pz_gd ?_ | with_reducible refine Pz_bd ?_ (fun _ _ _ => ?_) | with_reducible refine Pz_lt ?_ | with_reducible refine Zc_sI ?_ (by omega) | with_reducible refine Zc_sL ?_ | with_reducible refine Zc_cpI ?_ (by omega)
theorem z_fX4_firstFault_b37 {v1 : Int32} {M : Mm} (h : Zc M) : Pz (fX4_firstFault_b37 v1 M) := by
  unfold fX4_firstFault_b37
  repeat' first | assumption | with_reducible exact Pz_none | with_reducible refine Pz_some ?_ | with_reducible refine Pz_ite ?_ ?_ | with_reducible refine Pz_gd ?_ | with_reducible refine Pz_bd ?_ (fun _ _ _ => ?_) | with_reducible refine Pz_lt ?_ | with_reducible refine Zc_sI ?_ (by omega) | with_reducible refine Zc_sL ?_ | with_reducible refine Zc_cpI ?_ (by omega)
theorem z_fX4_firstFault_b4 : ∀ (n : Nat) (v0 : Int32) (v1 : Int32) (M : Mm), Zc M → Pz (fX4_firstFault_b4 n v0 v1 M) := by
  intro n
  induction n with
  | zero => intros; exact Pz_none
  | succ n ih =>
    intro v0 v1 M h
    rw [fX4_firstFault_b4]
    repeat' first | assumption | with_reducible refine z_fX4_firstFault_b37 ?_ | with_reducible refine z_fX4_next ?_ | with_reducible refine ih _ _ _ ?_ | with_reducible exact Pz_none | with_reducible refine Pz_some ?_ | with_reducible refine Pz_ite ?_ ?_ | with_reducible refine Pz_gd ?_ | with_reducible refine Pz_bd ?_ (fun _ _ _ => ?_) | with_reducible refine Pz_lt ?_ | with_reducible refine Zc_sI ?_ (by omega) | with_reducible refine Zc_sL ?_ | with_reducible refine Zc_cpI ?_ (by omega)
theorem z_fX4_firstFault {M : Mm} (h : Zc M) : Pz (fX4_firstFault M) := by
  unfold fX4_firstFault
  repeat' first | assumption | with_reducible refine z_fX4_firstFault_b4 _ _ _ _ ?_ | with_reducible exact Pz_none | with_reducible refine Pz_some ?_ | with_reducible refine Pz_ite ?_ ?_ | with_reducible refine Pz_gd ?_ | with_reducible refine Pz_bd ?_ (fun _ _ _ => ?_) | with_reducible refine Pz_lt ?_ | with_reducible refine Zc_sI ?_ (by omega) | with_reducible refine Zc_sL ?_ | with_reducible refine Zc_cpI ?_ (by omega)
theorem z_fX8_fault {M : Mm} (h : Zc M) : Pz (fX8_fault M) := by
  unfold fX8_fault
  repeat' first | assumption | with_reducible refine z_fX4_firstFault ?_ | with_reducible exact Pz_none | with_reducible refine Pz_some ?_ | with_reducible refine Pz_ite ?_ ?_ | with_reducible refine Pz_gd ?_ | with_reducible refine Pz_bd ?_ (fun _ _ _ => ?_) | with_reducible refine Pz_lt ?_ | with_reducible refine Zc_sI ?_ (by omega) | with_reducible refine Zc_sL ?_ | with_reducible refine Zc_cpI ?_ (by omega)
theorem z_fX0_copyFrom {c0 : Nat} {c1 : Nat} {M : Mm} (hc0 : c0 ≤ 10 ∨ 17 ≤ c0) (hc1 : c1 ≤ 10 ∨ 17 ≤ c1) (h : Zc M) : Pz (fX0_copyFrom c0 c1 M) := by
  unfold fX0_copyFrom
  repeat' first | assumption | with_reducible exact Pz_none | with_reducible refine Pz_some ?_ | with_reducible refine Pz_ite ?_ ?_ | with_reducible refine Pz_gd ?_ | with_reducible refine Pz_bd ?_ (fun _ _ _ => ?_) | with_reducible refine Pz_lt ?_ | with_reducible refine Zc_sI ?_ (by omega) | with_reducible refine Zc_sL ?_ | with_reducible refine Zc_cpI ?_ (by omega)
theorem z_fX0_crowdIn_b4 {c0 : Nat} (hc0 : c0 ≤ 10 ∨ 17 ≤ c0) : ∀ (n : Nat) (v0 : Int32) (v1 : Int32) (v2 : Int32) (M : Mm), Zc M → Pz (fX0_crowdIn_b4 c0 n v0 v1 v2 M) := by
  intro n
  induction n with
  | zero => intros; exact Pz_none
  | succ n ih =>
    intro v0 v1 v2 M h
    rw [fX0_crowdIn_b4]
    repeat' first | assumption | with_reducible refine ih _ _ _ _ ?_ | with_reducible exact Pz_none | with_reducible refine Pz_some ?_ | with_reducible refine Pz_ite ?_ ?_ | with_reducible refine Pz_gd ?_ | with_reducible refine Pz_bd ?_ (fun _ _ _ => ?_) | with_reducible refine Pz_lt ?_ | with_reducible refine Zc_sI ?_ (by omega) | with_reducible refine Zc_sL ?_ | with_reducible refine Zc_cpI ?_ (by omega)
theorem z_fX0_crowdIn {c0 : Nat} {x1 : Int32} {M : Mm} (hc0 : c0 ≤ 10 ∨ 17 ≤ c0) (h : Zc M) : Pz (fX0_crowdIn c0 x1 M) := by
  unfold fX0_crowdIn
  repeat' first | assumption | exact imgC_r _ | omega | with_reducible refine z_fX0_crowdIn_b4 ?_ _ _ _ _ _ ?_ | with_reducible exact Pz_none | with_reducible refine Pz_some ?_ | with_reducible refine Pz_ite ?_ ?_ | with_reducible refine Pz_gd ?_ | with_reducible refine Pz_bd ?_ (fun _ _ _ => ?_) | with_reducible refine Pz_lt ?_ | with_reducible refine Zc_sI ?_ (by omega) | with_reducible refine Zc_sL ?_ | with_reducible refine Zc_cpI ?_ (by omega)
theorem z_fX0_worth {c0 : Nat} {x1 : Int32} {M : Mm} (hc0 : c0 ≤ 10 ∨ 17 ≤ c0) (h : Zc M) : Pz (fX0_worth c0 x1 M) := by
  unfold fX0_worth
  repeat' first | assumption | with_reducible exact Pz_none | with_reducible refine Pz_some ?_ | with_reducible refine Pz_ite ?_ ?_ | with_reducible refine Pz_gd ?_ | with_reducible refine Pz_bd ?_ (fun _ _ _ => ?_) | with_reducible refine Pz_lt ?_ | with_reducible refine Zc_sI ?_ (by omega) | with_reducible refine Zc_sL ?_ | with_reducible refine Zc_cpI ?_ (by omega)
theorem z_fX0_lead_b4 {c0 : Nat} (hc0 : c0 ≤ 10 ∨ 17 ≤ c0) : ∀ (n : Nat) (v0 : Int32) (v1 : Int32) (v2 : Int32) (M : Mm), Zc M → Pz (fX0_lead_b4 c0 n v0 v1 v2 M) := by
  intro n
  induction n with
  | zero => intros; exact Pz_none
  | succ n ih =>
    intro v0 v1 v2 M h
    rw [fX0_lead_b4]
    repeat' first | assumption | exact imgC_r _ | omega | with_reducible refine z_fX0_worth ?_ ?_ | with_reducible refine ih _ _ _ _ ?_ | with_reducible exact Pz_none | with_reducible refine Pz_some ?_ | with_reducible refine Pz_ite ?_ ?_ | with_reducible refine Pz_gd ?_ | with_reducible refine Pz_bd ?_ (fun _ _ _ => ?_) | with_reducible refine Pz_lt ?_ | with_reducible refine Zc_sI ?_ (by omega) | with_reducible refine Zc_sL ?_ | with_reducible refine Zc_cpI ?_ (by omega)
theorem z_fX0_lead {c0 : Nat} {x1 : Int32} {M : Mm} (hc0 : c0 ≤ 10 ∨ 17 ≤ c0) (h : Zc M) : Pz (fX0_lead c0 x1 M) := by
  unfold fX0_lead
  repeat' first | assumption | exact imgC_r _ | omega | with_reducible refine z_fX0_lead_b4 ?_ _ _ _ _ _ ?_ | with_reducible exact Pz_none | with_reducible refine Pz_some ?_ | with_reducible refine Pz_ite ?_ ?_ | with_reducible refine Pz_gd ?_ | with_reducible refine Pz_bd ?_ (fun _ _ _ => ?_) | with_reducible refine Pz_lt ?_ | with_reducible refine Zc_sI ?_ (by omega) | with_reducible refine Zc_sL ?_ | with_reducible refine Zc_cpI ?_ (by omega)
theorem z_fX0_whyNoExchange {c0 : Nat} {x1 : Int32} {x2 : Int32} {M : Mm} (hc0 : c0 ≤ 10 ∨ 17 ≤ c0) (h : Zc M) : Pz (fX0_whyNoExchange c0 x1 x2 M) := by
  unfold fX0_whyNoExchange
  repeat' first | assumption | exact imgC_r _ | omega | with_reducible refine z_fX0_crowdIn ?_ ?_ | with_reducible refine z_fX0_lead ?_ ?_ | with_reducible exact Pz_none | with_reducible refine Pz_some ?_ | with_reducible refine Pz_ite ?_ ?_ | with_reducible refine Pz_gd ?_ | with_reducible refine Pz_bd ?_ (fun _ _ _ => ?_) | with_reducible refine Pz_lt ?_ | with_reducible refine Zc_sI ?_ (by omega) | with_reducible refine Zc_sL ?_ | with_reducible refine Zc_cpI ?_ (by omega)
theorem z_fX0_setFree_b29 {c0 : Nat} {M : Mm} (hc0 : c0 ≤ 10 ∨ 17 ≤ c0) (h : Zc M) : Pz (fX0_setFree_b29 c0 M) := by
  unfold fX0_setFree_b29
  repeat' first | assumption | with_reducible exact Pz_none | with_reducible refine Pz_some ?_ | with_reducible refine Pz_ite ?_ ?_ | with_reducible refine Pz_gd ?_ | with_reducible refine Pz_bd ?_ (fun _ _ _ => ?_) | with_reducible refine Pz_lt ?_ | with_reducible refine Zc_sI ?_ (by omega) | with_reducible refine Zc_sL ?_ | with_reducible refine Zc_cpI ?_ (by omega)
theorem z_fX0_setFree_b2 {c0 : Nat} (hc0 : c0 ≤ 10 ∨ 17 ≤ c0) : ∀ (n : Nat) (v0 : Int32) (v1 : Int32) (M : Mm), Zc M → Pz (fX0_setFree_b2 c0 n v0 v1 M) := by
  intro n
  induction n with
  | zero => intros; exact Pz_none
  | succ n ih =>
    intro v0 v1 M h
    rw [fX0_setFree_b2]
    repeat' first | assumption | exact imgC_r _ | omega | with_reducible refine z_fX0_setFree_b29 ?_ ?_ | with_reducible refine ih _ _ _ ?_ | with_reducible exact Pz_none | with_reducible refine Pz_some ?_ | with_reducible refine Pz_ite ?_ ?_ | with_reducible refine Pz_gd ?_ | with_reducible refine Pz_bd ?_ (fun _ _ _ => ?_) | with_reducible refine Pz_lt ?_ | with_reducible refine Zc_sI ?_ (by omega) | with_reducible refine Zc_sL ?_ | with_reducible refine Zc_cpI ?_ (by omega)
theorem z_fX0_setFree {c0 : Nat} {x1 : Int32} {M : Mm} (hc0 : c0 ≤ 10 ∨ 17 ≤ c0) (h : Zc M) : Pz (fX0_setFree c0 x1 M) := by
  unfold fX0_setFree
  repeat' first | assumption | exact imgC_r _ | omega | with_reducible refine z_fX0_setFree_b2 ?_ _ _ _ _ ?_ | with_reducible exact Pz_none | with_reducible refine Pz_some ?_ | with_reducible refine Pz_ite ?_ ?_ | with_reducible refine Pz_gd ?_ | with_reducible refine Pz_bd ?_ (fun _ _ _ => ?_) | with_reducible refine Pz_lt ?_ | with_reducible refine Zc_sI ?_ (by omega) | with_reducible refine Zc_sL ?_ | with_reducible refine Zc_cpI ?_ (by omega)
theorem z_fX3_endExchange {M : Mm} (h : Zc M) : Pz (fX3_endExchange M) := by
  unfold fX3_endExchange
  repeat' first | assumption | exact imgC_r _ | omega | with_reducible refine z_fX0_whyNoExchange ?_ ?_ | with_reducible refine z_fX0_setFree ?_ ?_ | with_reducible exact Pz_none | with_reducible refine Pz_some ?_ | with_reducible refine Pz_ite ?_ ?_ | with_reducible refine Pz_gd ?_ | with_reducible refine Pz_bd ?_ (fun _ _ _ => ?_) | with_reducible refine Pz_lt ?_ | with_reducible refine Zc_sI ?_ (by omega) | with_reducible refine Zc_sL ?_ | with_reducible refine Zc_cpI ?_ (by omega)
theorem z_fX3_gather_b25 {v1 : Int32} {s1 : Int32} {s2 : Int32} {M : Mm} (h : Zc M) : Pz (fX3_gather_b25 v1 s1 s2 M) := by
  unfold fX3_gather_b25
  repeat' first | assumption | with_reducible exact Pz_none | with_reducible refine Pz_some ?_ | with_reducible refine Pz_ite ?_ ?_ | with_reducible refine Pz_gd ?_ | with_reducible refine Pz_bd ?_ (fun _ _ _ => ?_) | with_reducible refine Pz_lt ?_ | with_reducible refine Zc_sI ?_ (by omega) | with_reducible refine Zc_sL ?_ | with_reducible refine Zc_cpI ?_ (by omega)
theorem z_fX3_gather {x1 : Int32} {M : Mm} (h : Zc M) : Pz (fX3_gather x1 M) := by
  unfold fX3_gather
  repeat' first | assumption | with_reducible refine z_fX3_gather_b25 ?_ | with_reducible exact Pz_none | with_reducible refine Pz_some ?_ | with_reducible refine Pz_ite ?_ ?_ | with_reducible refine Pz_gd ?_ | with_reducible refine Pz_bd ?_ (fun _ _ _ => ?_) | with_reducible refine Pz_lt ?_ | with_reducible refine Zc_sI ?_ (by omega) | with_reducible refine Zc_sL ?_ | with_reducible refine Zc_cpI ?_ (by omega)
theorem z_fX0_statesFor {x0 : Int32} {M : Mm} (h : Zc M) : Pz (fX0_statesFor x0 M) := by
  unfold fX0_statesFor
  repeat' first | assumption | with_reducible exact Pz_none | with_reducible refine Pz_some ?_ | with_reducible refine Pz_ite ?_ ?_ | with_reducible refine Pz_gd ?_ | with_reducible refine Pz_bd ?_ (fun _ _ _ => ?_) | with_reducible refine Pz_lt ?_ | with_reducible refine Zc_sI ?_ (by omega) | with_reducible refine Zc_sL ?_ | with_reducible refine Zc_cpI ?_ (by omega)
theorem z_fX0_whyNot_b45 {c0 : Nat} {v2 : Int32} {M : Mm} (hc0 : c0 ≤ 10 ∨ 17 ≤ c0) (h : Zc M) : Pz (fX0_whyNot_b45 c0 v2 M) := by
  unfold fX0_whyNot_b45
  repeat' first | assumption | with_reducible exact Pz_none | with_reducible refine Pz_some ?_ | with_reducible refine Pz_ite ?_ ?_ | with_reducible refine Pz_gd ?_ | with_reducible refine Pz_bd ?_ (fun _ _ _ => ?_) | with_reducible refine Pz_lt ?_ | with_reducible refine Zc_sI ?_ (by omega) | with_reducible refine Zc_sL ?_ | with_reducible refine Zc_cpI ?_ (by omega)
theorem z_fX0_whyNot {c0 : Nat} {x1 : Int32} {x2 : Int32} {M : Mm} (hc0 : c0 ≤ 10 ∨ 17 ≤ c0) (h : Zc M) : Pz (fX0_whyNot c0 x1 x2 M) := by
  unfold fX0_whyNot
  repeat' first | assumption | exact imgC_r _ | omega | with_reducible refine z_fX0_isThere ?_ ?_ | with_reducible refine z_fX0_statesFor ?_ | with_reducible refine z_fX0_whyNot_b45 ?_ ?_ | with_reducible exact Pz_none | with_reducible refine Pz_some ?_ | with_reducible refine Pz_ite ?_ ?_ | with_reducible refine Pz_gd ?_ | with_reducible refine Pz_bd ?_ (fun _ _ _ => ?_) | with_reducible refine Pz_lt ?_ | with_reducible refine Zc_sI ?_ (by omega) | with_reducible refine Zc_sL ?_ | with_reducible refine Zc_cpI ?_ (by omega)
theorem z_fX0_carryOut {c0 : Nat} {x1 : Int32} {x2 : Int32} {M : Mm} (hc0 : c0 ≤ 10 ∨ 17 ≤ c0) (h : Zc M) : Pz (fX0_carryOut c0 x1 x2 M) := by
  unfold fX0_carryOut
  repeat' first | assumption | with_reducible exact Pz_none | with_reducible refine Pz_some ?_ | with_reducible refine Pz_ite ?_ ?_ | with_reducible refine Pz_gd ?_ | with_reducible refine Pz_bd ?_ (fun _ _ _ => ?_) | with_reducible refine Pz_lt ?_ | with_reducible refine Zc_sI ?_ (by omega) | with_reducible refine Zc_sL ?_ | with_reducible refine Zc_cpI ?_ (by omega)
theorem z_fX3_endDeed {x1 : Int32} {M : Mm} (h : Zc M) : Pz (fX3_endDeed x1 M) := by
  unfold fX3_endDeed
  repeat' first | assumption | exact imgC_r _ | omega | with_reducible refine z_fX0_whyNot ?_ ?_ | with_reducible refine z_fX0_carryOut ?_ ?_ | with_reducible exact Pz_none | with_reducible refine Pz_some ?_ | with_reducible refine Pz_ite ?_ ?_ | with_reducible refine Pz_gd ?_ | with_reducible refine Pz_bd ?_ (fun _ _ _ => ?_) | with_reducible refine Pz_lt ?_ | with_reducible refine Zc_sI ?_ (by omega) | with_reducible refine Zc_sL ?_ | with_reducible refine Zc_cpI ?_ (by omega)
theorem z_fX3_take {x1 : Int32} {M : Mm} (h : Zc M) : Pz (fX3_take x1 M) := by
  unfold fX3_take
  repeat' first | assumption | with_reducible refine z_fX3_endExchange ?_ | with_reducible refine z_fX4_deedOf ?_ | with_reducible refine z_fX3_endDeed ?_ | with_reducible refine z_fX4_officerOf ?_ | with_reducible refine z_fX3_gather ?_ | with_reducible exact Pz_none | with_reducible refine Pz_some ?_ | with_reducible refine Pz_ite ?_ ?_ | with_reducible refine Pz_gd ?_ | with_reducible refine Pz_bd ?_ (fun _ _ _ => ?_) | with_reducible refine Pz_lt ?_ | with_reducible refine Zc_sI ?_ (by omega) | with_reducible refine Zc_sL ?_ | with_reducible refine Zc_cpI ?_ (by omega)
theorem z_fX3_read_b35 {c1 : Nat} (hc1 : c1 ≤ 10 ∨ 17 ≤ c1) : ∀ (n : Nat) (v0 : Int32) (M : Mm), Zc M → Pz (fX3_read_b35 c1 n v0 M) := by
  intro n
  induction n with
  | zero => intros; exact Pz_none
  | succ n ih =>
    intro v0 M h
    rw [fX3_read_b35]
    repeat' first | assumption | with_reducible refine z_fX3_take ?_ | with_reducible refine ih _ _ ?_ | with_reducible exact Pz_none | with_reducible refine Pz_some ?_ | with_reducible refine Pz_ite ?_ ?_ | with_reducible refine Pz_gd ?_ | with_reducible refine Pz_bd ?_ (fun _ _ _ => ?_) | with_reducible refine Pz_lt ?_ | with_reducible refine Zc_sI ?_ (by omega) | with_reducible refine Zc_sL ?_ | with_reducible refine Zc_cpI ?_ (by omega)
theorem z_fX3_read {c1 : Nat} {M : Mm} (hc1 : c1 ≤ 10 ∨ 17 ≤ c1) (h : Zc M) : Pz (fX3_read c1 M) := by
  unfold fX3_read
  repeat' first | assumption | exact imgC_r _ | omega | with_reducible refine z_fX0_copyFrom ?_ ?_ ?_ | with_reducible refine z_fX3_read_b35 ?_ _ _ _ ?_ | with_reducible exact Pz_none | with_reducible refine Pz_some ?_ | with_reducible refine Pz_ite ?_ ?_ | with_reducible refine Pz_gd ?_ | with_reducible refine Pz_bd ?_ (fun _ _ _ => ?_) | with_reducible refine Pz_lt ?_ | with_reducible refine Zc_sI ?_ (by omega) | with_reducible refine Zc_sL ?_ | with_reducible refine Zc_cpI ?_ (by omega)
theorem z_fX8_readMonths {M : Mm} (h : Zc M) : Pz (fX8_readMonths M) := by
  unfold fX8_readMonths
  repeat' first | assumption | exact imgC_r _ | omega | with_reducible refine z_fX4_firstFault ?_ | with_reducible refine z_fX3_read ?_ ?_ | with_reducible exact Pz_none | with_reducible refine Pz_some ?_ | with_reducible refine Pz_ite ?_ ?_ | with_reducible refine Pz_gd ?_ | with_reducible refine Pz_bd ?_ (fun _ _ _ => ?_) | with_reducible refine Pz_lt ?_ | with_reducible refine Zc_sI ?_ (by omega) | with_reducible refine Zc_sL ?_ | with_reducible refine Zc_cpI ?_ (by omega)
theorem z_fX3_failedAct {M : Mm} (h : Zc M) : Pz (fX3_failedAct M) := by
  unfold fX3_failedAct
  repeat' first | assumption | with_reducible exact Pz_none | with_reducible refine Pz_some ?_ | with_reducible refine Pz_ite ?_ ?_ | with_reducible refine Pz_gd ?_ | with_reducible refine Pz_bd ?_ (fun _ _ _ => ?_) | with_reducible refine Pz_lt ?_ | with_reducible refine Zc_sI ?_ (by omega) | with_reducible refine Zc_sL ?_ | with_reducible refine Zc_cpI ?_ (by omega)
theorem z_fX3_failedWhy {M : Mm} (h : Zc M) : Pz (fX3_failedWhy M) := by
  unfold fX3_failedWhy
  repeat' first | assumption | with_reducible exact Pz_none | with_reducible refine Pz_some ?_ | with_reducible refine Pz_ite ?_ ?_ | with_reducible refine Pz_gd ?_ | with_reducible refine Pz_bd ?_ (fun _ _ _ => ?_) | with_reducible refine Pz_lt ?_ | with_reducible refine Zc_sI ?_ (by omega) | with_reducible refine Zc_sL ?_ | with_reducible refine Zc_cpI ?_ (by omega)
theorem z_fX8_judge {x1 : Int32} {M : Mm} (h : Zc M) : Pz (fX8_judge x1 M) := by
  unfold fX8_judge
  repeat' first | assumption | with_reducible refine z_fX8_isWithin ?_ | with_reducible refine z_fX8_readMonths ?_ | with_reducible refine z_fX3_failedAct ?_ | with_reducible refine z_fX3_failedWhy ?_ | with_reducible exact Pz_none | with_reducible refine Pz_some ?_ | with_reducible refine Pz_ite ?_ ?_ | with_reducible refine Pz_gd ?_ | with_reducible refine Pz_bd ?_ (fun _ _ _ => ?_) | with_reducible refine Pz_lt ?_ | with_reducible refine Zc_sI ?_ (by omega) | with_reducible refine Zc_sL ?_ | with_reducible refine Zc_cpI ?_ (by omega)
theorem z_fX8_behind {x1 : Int32} {x2 : Int32} {M : Mm} (h : Zc M) : Pz (fX8_behind x1 x2 M) := by
  unfold fX8_behind
  repeat' first | assumption | exact imgC_r _ | omega | with_reducible refine z_fX0_isThere ?_ ?_ | with_reducible refine z_fX8_isWithin ?_ | with_reducible refine z_fX8_readMonths ?_ | with_reducible exact Pz_none | with_reducible refine Pz_some ?_ | with_reducible refine Pz_ite ?_ ?_ | with_reducible refine Pz_gd ?_ | with_reducible refine Pz_bd ?_ (fun _ _ _ => ?_) | with_reducible refine Pz_lt ?_ | with_reducible refine Zc_sI ?_ (by omega) | with_reducible refine Zc_sL ?_ | with_reducible refine Zc_cpI ?_ (by omega)
theorem z_fX8_ledger_b51 {s0 : Int32} {M : Mm} (h : Zc M) : Pz (fX8_ledger_b51 s0 M) := by
  unfold fX8_ledger_b51
  repeat' first | assumption | exact imgC_r _ | omega | with_reducible refine z_fX0_crowdIn ?_ ?_ | with_reducible refine z_fX0_lead ?_ ?_ | with_reducible exact Pz_none | with_reducible refine Pz_some ?_ | with_reducible refine Pz_ite ?_ ?_ | with_reducible refine Pz_gd ?_ | with_reducible refine Pz_bd ?_ (fun _ _ _ => ?_) | with_reducible refine Pz_lt ?_ | with_reducible refine Zc_sI ?_ (by omega) | with_reducible refine Zc_sL ?_ | with_reducible refine Zc_cpI ?_ (by omega)
theorem z_fX8_ledger {x1 : Int32} {M : Mm} (h : Zc M) : Pz (fX8_ledger x1 M) := by
  unfold fX8_ledger
  repeat' first | assumption | with_reducible refine z_fX8_isWithin ?_ | with_reducible refine z_fX8_readMonths ?_ | with_reducible refine z_fX8_ledger_b51 ?_ | with_reducible exact Pz_none | with_reducible refine Pz_some ?_ | with_reducible refine Pz_ite ?_ ?_ | with_reducible refine Pz_gd ?_ | with_reducible refine Pz_bd ?_ (fun _ _ _ => ?_) | with_reducible refine Pz_lt ?_ | with_reducible refine Zc_sI ?_ (by omega) | with_reducible refine Zc_sL ?_ | with_reducible refine Zc_cpI ?_ (by omega)
theorem z_fX8_done {M : Mm} (h : Zc M) : Pz (fX8_done M) := by
  unfold fX8_done
  repeat' first | assumption | exact imgC_r _ | omega | with_reducible refine z_fX8_readMonths ?_ | with_reducible refine z_fX0_copyFrom ?_ ?_ ?_ | with_reducible exact Pz_none | with_reducible refine Pz_some ?_ | with_reducible refine Pz_ite ?_ ?_ | with_reducible refine Pz_gd ?_ | with_reducible refine Pz_bd ?_ (fun _ _ _ => ?_) | with_reducible refine Pz_lt ?_ | with_reducible refine Zc_sI ?_ (by omega) | with_reducible refine Zc_sL ?_ | with_reducible refine Zc_cpI ?_ (by omega)
theorem z_fX8_owed {M : Mm} (h : Zc M) : Pz (fX8_owed M) := by
  unfold fX8_owed
  repeat' first | assumption | exact imgC_r _ | omega | with_reducible refine z_fX0_crowdIn ?_ ?_ | with_reducible refine z_fX0_lead ?_ ?_ | with_reducible exact Pz_none | with_reducible refine Pz_some ?_ | with_reducible refine Pz_ite ?_ ?_ | with_reducible refine Pz_gd ?_ | with_reducible refine Pz_bd ?_ (fun _ _ _ => ?_) | with_reducible refine Pz_lt ?_ | with_reducible refine Zc_sI ?_ (by omega) | with_reducible refine Zc_sL ?_ | with_reducible refine Zc_cpI ?_ (by omega)
theorem z_fX0_lotIn {c0 : Nat} {x1 : Int32} {x2 : Int32} {M : Mm} (hc0 : c0 ≤ 10 ∨ 17 ≤ c0) (h : Zc M) : Pz (fX0_lotIn c0 x1 x2 M) := by
  unfold fX0_lotIn
  repeat' first | assumption | exact imgC_r _ | omega | with_reducible refine z_fX0_crowdIn ?_ ?_ | with_reducible exact Pz_none | with_reducible refine Pz_some ?_ | with_reducible refine Pz_ite ?_ ?_ | with_reducible refine Pz_gd ?_ | with_reducible refine Pz_bd ?_ (fun _ _ _ => ?_) | with_reducible refine Pz_lt ?_ | with_reducible refine Zc_sI ?_ (by omega) | with_reducible refine Zc_sL ?_ | with_reducible refine Zc_cpI ?_ (by omega)
theorem z_fJ7_fill_d0a16_b6 {c0 : Nat} {n0 : Nat} (hc0 : c0 ≤ 10 ∨ 17 ≤ c0) : ∀ (n : Nat) (v0 : Int64) (v1 : Int32) (v2 : Int32) (M : Mm), Zc M → Pz (fJ7_fill_d0a16_b6 c0 n0 n v0 v1 v2 M) := by
  intro n
  induction n with
  | zero => intros; exact Pz_none
  | succ n ih =>
    intro v0 v1 v2 M h
    rw [fJ7_fill_d0a16_b6]
    repeat' first | assumption | with_reducible refine ih _ _ _ _ ?_ | with_reducible exact Pz_none | with_reducible refine Pz_some ?_ | with_reducible refine Pz_ite ?_ ?_ | with_reducible refine Pz_gd ?_ | with_reducible refine Pz_bd ?_ (fun _ _ _ => ?_) | with_reducible refine Pz_lt ?_ | with_reducible refine Zc_sI ?_ (by omega) | with_reducible refine Zc_sL ?_ | with_reducible refine Zc_cpI ?_ (by omega)
theorem z_fJ7_fill_d0a16 {c0 : Nat} {n0 : Nat} {x1 : Int64} {M : Mm} (hc0 : c0 ≤ 10 ∨ 17 ≤ c0) (h : Zc M) : Pz (fJ7_fill_d0a16 c0 n0 x1 M) := by
  unfold fJ7_fill_d0a16
  repeat' first | assumption | exact imgC_r _ | omega | with_reducible refine z_fJ7_fill_d0a16_b6 ?_ _ _ _ _ _ ?_ | with_reducible exact Pz_none | with_reducible refine Pz_some ?_ | with_reducible refine Pz_ite ?_ ?_ | with_reducible refine Pz_gd ?_ | with_reducible refine Pz_bd ?_ (fun _ _ _ => ?_) | with_reducible refine Pz_lt ?_ | with_reducible refine Zc_sI ?_ (by omega) | with_reducible refine Zc_sL ?_ | with_reducible refine Zc_cpI ?_ (by omega)
theorem z_fX8_bothSidesOpen {M : Mm} (h : Zc M) : Pz (fX8_bothSidesOpen M) := by
  unfold fX8_bothSidesOpen
  repeat' first | assumption | exact imgC_r _ | omega | with_reducible refine z_fX0_lotIn ?_ ?_ | with_reducible exact Pz_none | with_reducible refine Pz_some ?_ | with_reducible refine Pz_ite ?_ ?_ | with_reducible refine Pz_gd ?_ | with_reducible refine Pz_bd ?_ (fun _ _ _ => ?_) | with_reducible refine Pz_lt ?_ | with_reducible refine Zc_sI ?_ (by omega) | with_reducible refine Zc_sL ?_ | with_reducible refine Zc_cpI ?_ (by omega)
theorem z_fX8_even {M : Mm} (h : Zc M) : Pz (fX8_even M) := by
  unfold fX8_even
  repeat' first | assumption | exact imgC_r _ | omega | with_reducible refine z_fX8_bothSidesOpen ?_ | with_reducible refine z_fX0_crowdIn ?_ ?_ | with_reducible refine z_fX0_lead ?_ ?_ | with_reducible exact Pz_none | with_reducible refine Pz_some ?_ | with_reducible refine Pz_ite ?_ ?_ | with_reducible refine Pz_gd ?_ | with_reducible refine Pz_bd ?_ (fun _ _ _ => ?_) | with_reducible refine Pz_lt ?_ | with_reducible refine Zc_sI ?_ (by omega) | with_reducible refine Zc_sL ?_ | with_reducible refine Zc_cpI ?_ (by omega)
theorem z_fX0_evenRate_b104 {c0 : Nat} (hc0 : c0 ≤ 10 ∨ 17 ≤ c0) : ∀ (n : Nat) (v0 : Int32) (v1 : Int32) (v2 : Int32) (M : Mm), Zc M → Pz (fX0_evenRate_b104 c0 n v0 v1 v2 M) := by
  intro n
  induction n with
  | zero => intros; exact Pz_none
  | succ n ih =>
    intro v0 v1 v2 M h
    rw [fX0_evenRate_b104]
    repeat' first | assumption | with_reducible refine ih _ _ _ _ ?_ | with_reducible exact Pz_none | with_reducible refine Pz_some ?_ | with_reducible refine Pz_ite ?_ ?_ | with_reducible refine Pz_gd ?_ | with_reducible refine Pz_bd ?_ (fun _ _ _ => ?_) | with_reducible refine Pz_lt ?_ | with_reducible refine Zc_sI ?_ (by omega) | with_reducible refine Zc_sL ?_ | with_reducible refine Zc_cpI ?_ (by omega)
theorem z_fX0_evenRate_b65 {nx15 : Int32 → Int32 → Int32 → Int32 → Int32 → Mm → Option (Int32 × Mm)} {c0 : Nat} {v1 : Int32} {v2 : Int32} {v3 : Int32} {v5 : Int32} {v6 : Int32} {s0 : Int32} {s1 : Int32} {M : Mm} (hnx15 : ∀ a0 a1 a2 a3 a4 M, Zc M → Pz (nx15 a0 a1 a2 a3 a4 M)) (hc0 : c0 ≤ 10 ∨ 17 ≤ c0) (h : Zc M) : Pz (fX0_evenRate_b65 nx15 c0 v1 v2 v3 v5 v6 s0 s1 M) := by
  unfold fX0_evenRate_b65
  repeat' first | assumption | exact imgC_r _ | omega | with_reducible refine z_fX0_worth ?_ ?_ | with_reducible refine hnx15 _ _ _ _ _ _ ?_ | with_reducible exact Pz_none | with_reducible refine Pz_some ?_ | with_reducible refine Pz_ite ?_ ?_ | with_reducible refine Pz_gd ?_ | with_reducible refine Pz_bd ?_ (fun _ _ _ => ?_) | with_reducible refine Pz_lt ?_ | with_reducible refine Zc_sI ?_ (by omega) | with_reducible refine Zc_sL ?_ | with_reducible refine Zc_cpI ?_ (by omega)
theorem z_fX0_evenRate_b44 {nx15 : Int32 → Int32 → Int32 → Int32 → Int32 → Mm → Option (Int32 × Mm)} {c0 : Nat} {v1 : Int32} {v2 : Int32} {v3 : Int32} {v4 : Int32} {v5 : Int32} {s0 : Int32} {M : Mm} (hnx15 : ∀ a0 a1 a2 a3 a4 M, Zc M → Pz (nx15 a0 a1 a2 a3 a4 M)) (hc0 : c0 ≤ 10 ∨ 17 ≤ c0) (h : Zc M) : Pz (fX0_evenRate_b44 nx15 c0 v1 v2 v3 v4 v5 s0 M) := by
  unfold fX0_evenRate_b44
  repeat' first | assumption | exact imgC_r _ | omega | with_reducible refine z_fX0_evenRate_b65 ?_ ?_ ?_ | with_reducible refine hnx15 _ _ _ _ _ _ ?_ | with_reducible exact Pz_none | with_reducible refine Pz_some ?_ | with_reducible refine Pz_ite ?_ ?_ | with_reducible refine Pz_gd ?_ | with_reducible refine Pz_bd ?_ (fun _ _ _ => ?_) | with_reducible refine Pz_lt ?_ | with_reducible refine Zc_sI ?_ (by omega) | with_reducible refine Zc_sL ?_ | with_reducible refine Zc_cpI ?_ (by omega)
theorem z_fX0_evenRate_b15 {c0 : Nat} (hc0 : c0 ≤ 10 ∨ 17 ≤ c0) : ∀ (n : Nat) (v0 : Int32) (v1 : Int32) (v2 : Int32) (v3 : Int32) (v4 : Int32) (M : Mm), Zc M → Pz (fX0_evenRate_b15 c0 n v0 v1 v2 v3 v4 M) := by
  intro n
  induction n with
  | zero => intros; exact Pz_none
  | succ n ih =>
    intro v0 v1 v2 v3 v4 M h
    rw [fX0_evenRate_b15]
    repeat' first | assumption | exact imgC_r _ | omega | with_reducible refine z_fX0_evenRate_b104 ?_ _ _ _ _ _ ?_ | with_reducible refine z_fX0_evenRate_b44 ?_ ?_ ?_ | with_reducible refine ih _ _ _ _ _ _ ?_ | with_reducible exact Pz_none | with_reducible refine Pz_some ?_ | with_reducible refine Pz_ite ?_ ?_ | with_reducible refine Pz_gd ?_ | with_reducible refine Pz_bd ?_ (fun _ _ _ => ?_) | with_reducible refine Pz_lt ?_ | with_reducible refine Zc_sI ?_ (by omega) | with_reducible refine Zc_sL ?_ | with_reducible refine Zc_cpI ?_ (by omega)
theorem z_fX0_evenRate {c0 : Nat} {x1 : Int32} {M : Mm} (hc0 : c0 ≤ 10 ∨ 17 ≤ c0) (h : Zc M) : Pz (fX0_evenRate c0 x1 M) := by
  unfold fX0_evenRate
  repeat' first | assumption | exact imgC_r _ | omega | with_reducible refine z_fX0_crowdIn ?_ ?_ | with_reducible refine z_fX0_evenRate_b15 ?_ _ _ _ _ _ _ _ ?_ | with_reducible exact Pz_none | with_reducible refine Pz_some ?_ | with_reducible refine Pz_ite ?_ ?_ | with_reducible refine Pz_gd ?_ | with_reducible refine Pz_bd ?_ (fun _ _ _ => ?_) | with_reducible refine Pz_lt ?_ | with_reducible refine Zc_sI ?_ (by omega) | with_reducible refine Zc_sL ?_ | with_reducible refine Zc_cpI ?_ (by omega)
theorem z_fX8_fair {x1 : Int32} {M : Mm} (h : Zc M) : Pz (fX8_fair x1 M) := by
  unfold fX8_fair
  repeat' first | assumption | exact imgC_r _ | omega | with_reducible refine z_fX8_isWithin ?_ | with_reducible refine z_fX8_bothSidesOpen ?_ | with_reducible refine z_fX0_evenRate ?_ ?_ | with_reducible exact Pz_none | with_reducible refine Pz_some ?_ | with_reducible refine Pz_ite ?_ ?_ | with_reducible refine Pz_gd ?_ | with_reducible refine Pz_bd ?_ (fun _ _ _ => ?_) | with_reducible refine Pz_lt ?_ | with_reducible refine Zc_sI ?_ (by omega) | with_reducible refine Zc_sL ?_ | with_reducible refine Zc_cpI ?_ (by omega)
theorem z_fX0_areThere {c0 : Nat} {x1 : Int32} {x2 : Int32} {M : Mm} (hc0 : c0 ≤ 10 ∨ 17 ≤ c0) (h : Zc M) : Pz (fX0_areThere c0 x1 x2 M) := by
  unfold fX0_areThere
  repeat' first | assumption | with_reducible exact Pz_none | with_reducible refine Pz_some ?_ | with_reducible refine Pz_ite ?_ ?_ | with_reducible refine Pz_gd ?_ | with_reducible refine Pz_bd ?_ (fun _ _ _ => ?_) | with_reducible refine Pz_lt ?_ | with_reducible refine Zc_sI ?_ (by omega) | with_reducible refine Zc_sL ?_ | with_reducible refine Zc_cpI ?_ (by omega)
theorem z_fX0_addSight_b38 {c0 : Nat} {s1 : Int32} {s2 : Int32} {M : Mm} (hc0 : c0 ≤ 10 ∨ 17 ≤ c0) (h : Zc M) : Pz (fX0_addSight_b38 c0 s1 s2 M) := by
  unfold fX0_addSight_b38
  repeat' first | assumption | with_reducible exact Pz_none | with_reducible refine Pz_some ?_ | with_reducible refine Pz_ite ?_ ?_ | with_reducible refine Pz_gd ?_ | with_reducible refine Pz_bd ?_ (fun _ _ _ => ?_) | with_reducible refine Pz_lt ?_ | with_reducible refine Zc_sI ?_ (by omega) | with_reducible refine Zc_sL ?_ | with_reducible refine Zc_cpI ?_ (by omega)
theorem z_fX0_addSight {c0 : Nat} {x1 : Int32} {x2 : Int32} {M : Mm} (hc0 : c0 ≤ 10 ∨ 17 ≤ c0) (h : Zc M) : Pz (fX0_addSight c0 x1 x2 M) := by
  unfold fX0_addSight
  repeat' first | assumption | exact imgC_r _ | omega | with_reducible refine z_fX0_addSight_b38 ?_ ?_ | with_reducible exact Pz_none | with_reducible refine Pz_some ?_ | with_reducible refine Pz_ite ?_ ?_ | with_reducible refine Pz_gd ?_ | with_reducible refine Pz_bd ?_ (fun _ _ _ => ?_) | with_reducible refine Pz_lt ?_ | with_reducible refine Zc_sI ?_ (by omega) | with_reducible refine Zc_sL ?_ | with_reducible refine Zc_cpI ?_ (by omega)
theorem z_fX8_seen {x1 : Int32} {x2 : Int32} {x3 : Int32} {M : Mm} (h : Zc M) : Pz (fX8_seen x1 x2 x3 M) := by
  unfold fX8_seen
  repeat' first | assumption | exact imgC_r _ | omega | with_reducible refine z_fX0_areThere ?_ ?_ | with_reducible refine z_fX0_addSight ?_ ?_ | with_reducible exact Pz_none | with_reducible refine Pz_some ?_ | with_reducible refine Pz_ite ?_ ?_ | with_reducible refine Pz_gd ?_ | with_reducible refine Pz_bd ?_ (fun _ _ _ => ?_) | with_reducible refine Pz_lt ?_ | with_reducible refine Zc_sI ?_ (by omega) | with_reducible refine Zc_sL ?_ | with_reducible refine Zc_cpI ?_ (by omega)
theorem z_fX8_forget {M : Mm} (h : Zc M) : Pz (fX8_forget M) := by
  unfold fX8_forget
  repeat' first | assumption | with_reducible exact Pz_none | with_reducible refine Pz_some ?_ | with_reducible refine Pz_ite ?_ ?_ | with_reducible refine Pz_gd ?_ | with_reducible refine Pz_bd ?_ (fun _ _ _ => ?_) | with_reducible refine Pz_lt ?_ | with_reducible refine Zc_sI ?_ (by omega) | with_reducible refine Zc_sL ?_ | with_reducible refine Zc_cpI ?_ (by omega)
theorem z_fX1_spread_b87 {nx32 : Int32 → Int32 → Mm → Option (Unit × Mm)} {v2 : Int32} {v3 : Int32} {M : Mm} (hnx32 : ∀ a0 a1 M, Zc M → Pz (nx32 a0 a1 M)) (h : Zc M) : Pz (fX1_spread_b87 nx32 v2 v3 M) := by
  unfold fX1_spread_b87
  repeat' first | assumption | with_reducible refine hnx32 _ _ _ ?_ | with_reducible exact Pz_none | with_reducible refine Pz_some ?_ | with_reducible refine Pz_ite ?_ ?_ | with_reducible refine Pz_gd ?_ | with_reducible refine Pz_bd ?_ (fun _ _ _ => ?_) | with_reducible refine Pz_lt ?_ | with_reducible refine Zc_sI ?_ (by omega) | with_reducible refine Zc_sL ?_ | with_reducible refine Zc_cpI ?_ (by omega)
theorem z_fX1_spread_b43 {nx32 : Int32 → Int32 → Mm → Option (Unit × Mm)} (hnx32 : ∀ a0 a1 M, Zc M → Pz (nx32 a0 a1 M)) : ∀ (n : Nat) (v0 : Int32) (v1 : Int32) (v2 : Int32) (M : Mm), Zc M → Pz (fX1_spread_b43 nx32 n v0 v1 v2 M) := by
  intro n
  induction n with
  | zero => intros; exact Pz_none
  | succ n ih =>
    intro v0 v1 v2 M h
    rw [fX1_spread_b43]
    repeat' first | assumption | with_reducible refine z_fX1_spread_b87 ?_ ?_ | with_reducible refine ih _ _ _ _ ?_ | with_reducible refine hnx32 _ _ _ ?_ | with_reducible exact Pz_none | with_reducible refine Pz_some ?_ | with_reducible refine Pz_ite ?_ ?_ | with_reducible refine Pz_gd ?_ | with_reducible refine Pz_bd ?_ (fun _ _ _ => ?_) | with_reducible refine Pz_lt ?_ | with_reducible refine Zc_sI ?_ (by omega) | with_reducible refine Zc_sL ?_ | with_reducible refine Zc_cpI ?_ (by omega)
theorem z_fX1_spread_b32 : ∀ (n : Nat) (v0 : Int32) (v1 : Int32) (M : Mm), Zc M → Pz (fX1_spread_b32 n v0 v1 M) := by
  intro n
  induction n with
  | zero => intros; exact Pz_none
  | succ n ih =>
    intro v0 v1 M h
    rw [fX1_spread_b32]
    repeat' first | assumption | with_reducible refine z_fX1_spread_b43 ?_ _ _ _ _ _ ?_ | with_reducible refine ih _ _ _ ?_ | with_reducible exact Pz_none | with_reducible refine Pz_some ?_ | with_reducible refine Pz_ite ?_ ?_ | with_reducible refine Pz_gd ?_ | with_reducible refine Pz_bd ?_ (fun _ _ _ => ?_) | with_reducible refine Pz_lt ?_ | with_reducible refine Zc_sI ?_ (by omega) | with_reducible refine Zc_sL ?_ | with_reducible refine Zc_cpI ?_ (by omega)
theorem z_fX1_spread {x1 : Int32} {x2 : Int32} {M : Mm} (h : Zc M) : Pz (fX1_spread x1 x2 M) := by
  unfold fX1_spread
  repeat' first | assumption | exact imgC_r _ | omega | with_reducible refine z_fJ7_fill_d0a16 ?_ ?_ | with_reducible refine z_fX1_spread_b32 _ _ _ _ ?_ | with_reducible exact Pz_none | with_reducible refine Pz_some ?_ | with_reducible refine Pz_ite ?_ ?_ | with_reducible refine Pz_gd ?_ | with_reducible refine Pz_bd ?_ (fun _ _ _ => ?_) | with_reducible refine Pz_lt ?_ | with_reducible refine Zc_sI ?_ (by omega) | with_reducible refine Zc_sL ?_ | with_reducible refine Zc_cpI ?_ (by omega)
theorem z_fX1_trustSum_b5 : ∀ (n : Nat) (v0 : Int32) (v1 : Int64) (v2 : Int32) (M : Mm), Zc M → Pz (fX1_trustSum_b5 n v0 v1 v2 M) := by
  intro n
  induction n with
  | zero => intros; exact Pz_none
  | succ n ih =>
    intro v0 v1 v2 M h
    rw [fX1_trustSum_b5]
    repeat' first | assumption | with_reducible refine ih _ _ _ _ ?_ | with_reducible exact Pz_none | with_reducible refine Pz_some ?_ | with_reducible refine Pz_ite ?_ ?_ | with_reducible refine Pz_gd ?_ | with_reducible refine Pz_bd ?_ (fun _ _ _ => ?_) | with_reducible refine Pz_lt ?_ | with_reducible refine Zc_sI ?_ (by omega) | with_reducible refine Zc_sL ?_ | with_reducible refine Zc_cpI ?_ (by omega)
theorem z_fX1_trustSum {x1 : Int32} {M : Mm} (h : Zc M) : Pz (fX1_trustSum x1 M) := by
  unfold fX1_trustSum
  repeat' first | assumption | with_reducible refine z_fX1_trustSum_b5 _ _ _ _ _ ?_ | with_reducible exact Pz_none | with_reducible refine Pz_some ?_ | with_reducible refine Pz_ite ?_ ?_ | with_reducible refine Pz_gd ?_ | with_reducible refine Pz_bd ?_ (fun _ _ _ => ?_) | with_reducible refine Pz_lt ?_ | with_reducible refine Zc_sI ?_ (by omega) | with_reducible refine Zc_sL ?_ | with_reducible refine Zc_cpI ?_ (by omega)
theorem z_fX1_waysToKeep_b5 : ∀ (n : Nat) (v0 : Int32) (v1 : Int32) (v2 : Int64) (v3 : Int32) (M : Mm), Zc M → Pz (fX1_waysToKeep_b5 n v0 v1 v2 v3 M) := by
  intro n
  induction n with
  | zero => intros; exact Pz_none
  | succ n ih =>
    intro v0 v1 v2 v3 M h
    rw [fX1_waysToKeep_b5]
    repeat' first | assumption | with_reducible refine ih _ _ _ _ _ ?_ | with_reducible exact Pz_none | with_reducible refine Pz_some ?_ | with_reducible refine Pz_ite ?_ ?_ | with_reducible refine Pz_gd ?_ | with_reducible refine Pz_bd ?_ (fun _ _ _ => ?_) | with_reducible refine Pz_lt ?_ | with_reducible refine Zc_sI ?_ (by omega) | with_reducible refine Zc_sL ?_ | with_reducible refine Zc_cpI ?_ (by omega)
theorem z_fX1_waysToKeep {x1 : Int32} {x2 : Int32} {M : Mm} (h : Zc M) : Pz (fX1_waysToKeep x1 x2 M) := by
  unfold fX1_waysToKeep
  repeat' first | assumption | with_reducible refine z_fX1_waysToKeep_b5 _ _ _ _ _ _ ?_ | with_reducible exact Pz_none | with_reducible refine Pz_some ?_ | with_reducible refine Pz_ite ?_ ?_ | with_reducible refine Pz_gd ?_ | with_reducible refine Pz_bd ?_ (fun _ _ _ => ?_) | with_reducible refine Pz_lt ?_ | with_reducible refine Zc_sI ?_ (by omega) | with_reducible refine Zc_sL ?_ | with_reducible refine Zc_cpI ?_ (by omega)
theorem z_fX1_commonDivisor_b9 : ∀ (n : Nat) (v0 : Int64) (v1 : Int64) (v2 : Int32) (M : Mm), Zc M → Pz (fX1_commonDivisor_b9 n v0 v1 v2 M) := by
  intro n
  induction n with
  | zero => intros; exact Pz_none
  | succ n ih =>
    intro v0 v1 v2 M h
    rw [fX1_commonDivisor_b9]
    repeat' first | assumption | with_reducible refine ih _ _ _ _ ?_ | with_reducible exact Pz_none | with_reducible refine Pz_some ?_ | with_reducible refine Pz_ite ?_ ?_ | with_reducible refine Pz_gd ?_ | with_reducible refine Pz_bd ?_ (fun _ _ _ => ?_) | with_reducible refine Pz_lt ?_ | with_reducible refine Zc_sI ?_ (by omega) | with_reducible refine Zc_sL ?_ | with_reducible refine Zc_cpI ?_ (by omega)
theorem z_fX1_commonDivisor {x0 : Int64} {x2 : Int64} {M : Mm} (h : Zc M) : Pz (fX1_commonDivisor x0 x2 M) := by
  unfold fX1_commonDivisor
  repeat' first | assumption | with_reducible refine z_fX1_commonDivisor_b9 _ _ _ _ _ ?_ | with_reducible exact Pz_none | with_reducible refine Pz_some ?_ | with_reducible refine Pz_ite ?_ ?_ | with_reducible refine Pz_gd ?_ | with_reducible refine Pz_bd ?_ (fun _ _ _ => ?_) | with_reducible refine Pz_lt ?_ | with_reducible refine Zc_sI ?_ (by omega) | with_reducible refine Zc_sL ?_ | with_reducible refine Zc_cpI ?_ (by omega)
theorem z_fX1_lowestTerms {x1 : Int64} {x3 : Int32} {M : Mm} (h : Zc M) : Pz (fX1_lowestTerms x1 x3 M) := by
  unfold fX1_lowestTerms
  repeat' first | assumption | with_reducible refine z_fX1_commonDivisor ?_ | with_reducible exact Pz_none | with_reducible refine Pz_some ?_ | with_reducible refine Pz_ite ?_ ?_ | with_reducible refine Pz_gd ?_ | with_reducible refine Pz_bd ?_ (fun _ _ _ => ?_) | with_reducible refine Pz_lt ?_ | with_reducible refine Zc_sI ?_ (by omega) | with_reducible refine Zc_sL ?_ | with_reducible refine Zc_cpI ?_ (by omega)
theorem z_fX8_broken_b89 {v3 : Int32} {s0 : Int64} {M : Mm} (h : Zc M) : Pz (fX8_broken_b89 v3 s0 M) := by
  unfold fX8_broken_b89
  repeat' first | assumption | with_reducible refine z_fX1_lowestTerms ?_ | with_reducible exact Pz_none | with_reducible refine Pz_some ?_ | with_reducible refine Pz_ite ?_ ?_ | with_reducible refine Pz_gd ?_ | with_reducible refine Pz_bd ?_ (fun _ _ _ => ?_) | with_reducible refine Pz_lt ?_ | with_reducible refine Zc_sI ?_ (by omega) | with_reducible refine Zc_sL ?_ | with_reducible refine Zc_cpI ?_ (by omega)
theorem z_fX8_broken {x1 : Int32} {x2 : Int32} {x3 : Int32} {M : Mm} (h : Zc M) : Pz (fX8_broken x1 x2 x3 M) := by
  unfold fX8_broken
  repeat' first | assumption | exact imgC_r _ | omega | with_reducible refine z_fX8_isWithin ?_ | with_reducible refine z_fX0_crowdIn ?_ ?_ | with_reducible refine z_fJ6_bitCount_0f7a4 ?_ | with_reducible refine z_fX1_spread ?_ | with_reducible refine z_fX1_waysToKeep ?_ | with_reducible refine z_fX8_broken_b89 ?_ | with_reducible refine z_fX1_trustSum ?_ | with_reducible exact Pz_none | with_reducible refine Pz_some ?_ | with_reducible refine Pz_ite ?_ ?_ | with_reducible refine Pz_gd ?_ | with_reducible refine Pz_bd ?_ (fun _ _ _ => ?_) | with_reducible refine Pz_lt ?_ | with_reducible refine Zc_sI ?_ (by omega) | with_reducible refine Zc_sL ?_ | with_reducible refine Zc_cpI ?_ (by omega)
theorem z_fX5_count_b123 {nx23 : Int32 → Int32 → Int32 → Int32 → Int32 → Mm → Option (Unit × Mm)} {v1 : Int32} {v2 : Int32} {v3 : Int32} {v4 : Int32} {v5 : Int32} {M : Mm} (hnx23 : ∀ a0 a1 a2 a3 a4 M, Zc M → Pz (nx23 a0 a1 a2 a3 a4 M)) (h : Zc M) : Pz (fX5_count_b123 nx23 v1 v2 v3 v4 v5 M) := by
  unfold fX5_count_b123
  repeat' first | assumption | with_reducible refine hnx23 _ _ _ _ _ _ ?_ | with_reducible exact Pz_none | with_reducible refine Pz_some ?_ | with_reducible refine Pz_ite ?_ ?_ | with_reducible refine Pz_gd ?_ | with_reducible refine Pz_bd ?_ (fun _ _ _ => ?_) | with_reducible refine Pz_lt ?_ | with_reducible refine Zc_sI ?_ (by omega) | with_reducible refine Zc_sL ?_ | with_reducible refine Zc_cpI ?_ (by omega)
theorem z_fX5_count_b114 {nx23 : Int32 → Int32 → Int32 → Int32 → Int32 → Mm → Option (Unit × Mm)} {v1 : Int32} {v2 : Int32} {v3 : Int32} {v4 : Int32} {v5 : Int32} {s1 : Int32} {M : Mm} (hnx23 : ∀ a0 a1 a2 a3 a4 M, Zc M → Pz (nx23 a0 a1 a2 a3 a4 M)) (h : Zc M) : Pz (fX5_count_b114 nx23 v1 v2 v3 v4 v5 s1 M) := by
  unfold fX5_count_b114
  repeat' first | assumption | with_reducible refine z_fX5_count_b123 ?_ ?_ | with_reducible refine hnx23 _ _ _ _ _ _ ?_ | with_reducible exact Pz_none | with_reducible refine Pz_some ?_ | with_reducible refine Pz_ite ?_ ?_ | with_reducible refine Pz_gd ?_ | with_reducible refine Pz_bd ?_ (fun _ _ _ => ?_) | with_reducible refine Pz_lt ?_ | with_reducible refine Zc_sI ?_ (by omega) | with_reducible refine Zc_sL ?_ | with_reducible refine Zc_cpI ?_ (by omega)
theorem z_fX5_count_b72 {nx23 : Int32 → Int32 → Int32 → Int32 → Int32 → Mm → Option (Unit × Mm)} {v1 : Int32} {v2 : Int32} {v3 : Int32} {v4 : Int32} {v5 : Int32} {v6 : Int32} {s0 : Int32} {M : Mm} (hnx23 : ∀ a0 a1 a2 a3 a4 M, Zc M → Pz (nx23 a0 a1 a2 a3 a4 M)) (h : Zc M) : Pz (fX5_count_b72 nx23 v1 v2 v3 v4 v5 v6 s0 M) := by
  unfold fX5_count_b72
  repeat' first | assumption | with_reducible refine z_fX5_count_b123 ?_ ?_ | with_reducible refine z_fX5_count_b114 ?_ ?_ | with_reducible refine hnx23 _ _ _ _ _ _ ?_ | with_reducible exact Pz_none | with_reducible refine Pz_some ?_ | with_reducible refine Pz_ite ?_ ?_ | with_reducible refine Pz_gd ?_ | with_reducible refine Pz_bd ?_ (fun _ _ _ => ?_) | with_reducible refine Pz_lt ?_ | with_reducible refine Zc_sI ?_ (by omega) | with_reducible refine Zc_sL ?_ | with_reducible refine Zc_cpI ?_ (by omega)
theorem z_fX5_count_b67 {nx23 : Int32 → Int32 → Int32 → Int32 → Int32 → Mm → Option (Unit × Mm)} {v1 : Int32} {v2 : Int32} {v3 : Int32} {v4 : Int32} {v5 : Int32} {v6 : Int32} {M : Mm} (hnx23 : ∀ a0 a1 a2 a3 a4 M, Zc M → Pz (nx23 a0 a1 a2 a3 a4 M)) (h : Zc M) : Pz (fX5_count_b67 nx23 v1 v2 v3 v4 v5 v6 M) := by
  unfold fX5_count_b67
  repeat' first | assumption | with_reducible refine z_fX5_count_b72 ?_ ?_ | with_reducible refine hnx23 _ _ _ _ _ _ ?_ | with_reducible exact Pz_none | with_reducible refine Pz_some ?_ | with_reducible refine Pz_ite ?_ ?_ | with_reducible refine Pz_gd ?_ | with_reducible refine Pz_bd ?_ (fun _ _ _ => ?_) | with_reducible refine Pz_lt ?_ | with_reducible refine Zc_sI ?_ (by omega) | with_reducible refine Zc_sL ?_ | with_reducible refine Zc_cpI ?_ (by omega)
theorem z_fX5_count_b48 {nx23 : Int32 → Int32 → Int32 → Int32 → Int32 → Mm → Option (Unit × Mm)} {v1 : Int32} {v2 : Int32} {v3 : Int32} {v4 : Int32} {v5 : Int32} {s0 : Int32} {M : Mm} (hnx23 : ∀ a0 a1 a2 a3 a4 M, Zc M → Pz (nx23 a0 a1 a2 a3 a4 M)) (h : Zc M) : Pz (fX5_count_b48 nx23 v1 v2 v3 v4 v5 s0 M) := by
  unfold fX5_count_b48
  repeat' first | assumption | with_reducible refine z_fX5_count_b67 ?_ ?_ | with_reducible refine z_fX5_count_b72 ?_ ?_ | with_reducible refine hnx23 _ _ _ _ _ _ ?_ | with_reducible exact Pz_none | with_reducible refine Pz_some ?_ | with_reducible refine Pz_ite ?_ ?_ | with_reducible refine Pz_gd ?_ | with_reducible refine Pz_bd ?_ (fun _ _ _ => ?_) | with_reducible refine Pz_lt ?_ | with_reducible refine Zc_sI ?_ (by omega) | with_reducible refine Zc_sL ?_ | with_reducible refine Zc_cpI ?_ (by omega)
theorem z_fX5_count_b43 {nx23 : Int32 → Int32 → Int32 → Int32 → Int32 → Mm → Option (Unit × Mm)} {v1 : Int32} {v2 : Int32} {v3 : Int32} {v4 : Int32} {v5 : Int32} {M : Mm} (hnx23 : ∀ a0 a1 a2 a3 a4 M, Zc M → Pz (nx23 a0 a1 a2 a3 a4 M)) (h : Zc M) : Pz (fX5_count_b43 nx23 v1 v2 v3 v4 v5 M) := by
  unfold fX5_count_b43
  repeat' first | assumption | with_reducible refine z_fX5_count_b48 ?_ ?_ | with_reducible refine hnx23 _ _ _ _ _ _ ?_ | with_reducible exact Pz_none | with_reducible refine Pz_some ?_ | with_reducible refine Pz_ite ?_ ?_ | with_reducible refine Pz_gd ?_ | with_reducible refine Pz_bd ?_ (fun _ _ _ => ?_) | with_reducible refine Pz_lt ?_ | with_reducible refine Zc_sI ?_ (by omega) | with_reducible refine Zc_sL ?_ | with_reducible refine Zc_cpI ?_ (by omega)
theorem z_fX5_count_b23 : ∀ (n : Nat) (v0 : Int32) (v1 : Int32) (v2 : Int32) (v3 : Int32) (v4 : Int32) (M : Mm), Zc M → Pz (fX5_count_b23 n v0 v1 v2 v3 v4 M) := by
  intro n
  induction n with
  | zero => intros; exact Pz_none
  | succ n ih =>
    intro v0 v1 v2 v3 v4 M h
    rw [fX5_count_b23]
    repeat' first | assumption | with_reducible refine z_fX5_count_b43 ?_ ?_ | with_reducible refine z_fX5_count_b48 ?_ ?_ | with_reducible refine ih _ _ _ _ _ _ ?_ | with_reducible exact Pz_none | with_reducible refine Pz_some ?_ | with_reducible refine Pz_ite ?_ ?_ | with_reducible refine Pz_gd ?_ | with_reducible refine Pz_bd ?_ (fun _ _ _ => ?_) | with_reducible refine Pz_lt ?_ | with_reducible refine Zc_sI ?_ (by omega) | with_reducible refine Zc_sL ?_ | with_reducible refine Zc_cpI ?_ (by omega)
theorem z_fX5_count {x1 : Int32} {x2 : Int32} {x3 : Int32} {M : Mm} (h : Zc M) : Pz (fX5_count x1 x2 x3 M) := by
  unfold fX5_count
  repeat' first | assumption | with_reducible refine z_fX5_count_b23 _ _ _ _ _ _ _ ?_ | with_reducible exact Pz_none | with_reducible refine Pz_some ?_ | with_reducible refine Pz_ite ?_ ?_ | with_reducible refine Pz_gd ?_ | with_reducible refine Pz_bd ?_ (fun _ _ _ => ?_) | with_reducible refine Pz_lt ?_ | with_reducible refine Zc_sI ?_ (by omega) | with_reducible refine Zc_sL ?_ | with_reducible refine Zc_cpI ?_ (by omega)
theorem z_fX8_rests {x1 : Int32} {x2 : Int32} {x3 : Int32} {x4 : Int32} {M : Mm} (h : Zc M) : Pz (fX8_rests x1 x2 x3 x4 M) := by
  unfold fX8_rests
  repeat' first | assumption | exact imgC_r _ | omega | with_reducible refine z_fX8_isWithin ?_ | with_reducible refine z_fX0_lotIn ?_ ?_ | with_reducible refine z_fJ6_bitCount_0f7a4 ?_ | with_reducible refine z_fX5_count ?_ | with_reducible exact Pz_none | with_reducible refine Pz_some ?_ | with_reducible refine Pz_ite ?_ ?_ | with_reducible refine Pz_gd ?_ | with_reducible refine Pz_bd ?_ (fun _ _ _ => ?_) | with_reducible refine Pz_lt ?_ | with_reducible refine Zc_sI ?_ (by omega) | with_reducible refine Zc_sL ?_ | with_reducible refine Zc_cpI ?_ (by omega)
theorem z_fX7_tryDeed {x1 : Int32} {x2 : Int32} {M : Mm} (h : Zc M) : Pz (fX7_tryDeed x1 x2 M) := by
  unfold fX7_tryDeed
  repeat' first | assumption | exact imgC_r _ | omega | with_reducible refine z_fX0_whyNot ?_ ?_ | with_reducible refine z_fX0_carryOut ?_ ?_ | with_reducible exact Pz_none | with_reducible refine Pz_some ?_ | with_reducible refine Pz_ite ?_ ?_ | with_reducible refine Pz_gd ?_ | with_reducible refine Pz_bd ?_ (fun _ _ _ => ?_) | with_reducible refine Pz_lt ?_ | with_reducible refine Zc_sI ?_ (by omega) | with_reducible refine Zc_sL ?_ | with_reducible refine Zc_cpI ?_ (by omega)
theorem z_fX7_tryExchange {x1 : Int32} {M : Mm} (h : Zc M) : Pz (fX7_tryExchange x1 M) := by
  unfold fX7_tryExchange
  repeat' first | assumption | exact imgC_r _ | omega | with_reducible refine z_fX0_whyNoExchange ?_ ?_ | with_reducible refine z_fX0_setFree ?_ ?_ | with_reducible exact Pz_none | with_reducible refine Pz_some ?_ | with_reducible refine Pz_ite ?_ ?_ | with_reducible refine Pz_gd ?_ | with_reducible refine Pz_bd ?_ (fun _ _ _ => ?_) | with_reducible refine Pz_lt ?_ | with_reducible refine Zc_sI ?_ (by omega) | with_reducible refine Zc_sL ?_ | with_reducible refine Zc_cpI ?_ (by omega)
theorem z_fX7_draw_b57 {s1 : Int32} {s2 : Int32} {s3 : Int32} {M : Mm} (h : Zc M) : Pz (fX7_draw_b57 s1 s2 s3 M) := by
  unfold fX7_draw_b57
  repeat' first | assumption | with_reducible refine z_fX7_tryExchange ?_ | with_reducible exact Pz_none | with_reducible refine Pz_some ?_ | with_reducible refine Pz_ite ?_ ?_ | with_reducible refine Pz_gd ?_ | with_reducible refine Pz_bd ?_ (fun _ _ _ => ?_) | with_reducible refine Pz_lt ?_ | with_reducible refine Zc_sI ?_ (by omega) | with_reducible refine Zc_sL ?_ | with_reducible refine Zc_cpI ?_ (by omega)
theorem z_fX7_draw {x1 : Int32} {M : Mm} (h : Zc M) : Pz (fX7_draw x1 M) := by
  unfold fX7_draw
  repeat' first | assumption | with_reducible refine z_fX7_draw_b57 ?_ | with_reducible refine z_fX7_tryDeed ?_ | with_reducible exact Pz_none | with_reducible refine Pz_some ?_ | with_reducible refine Pz_ite ?_ ?_ | with_reducible refine Pz_gd ?_ | with_reducible refine Pz_bd ?_ (fun _ _ _ => ?_) | with_reducible refine Pz_lt ?_ | with_reducible refine Zc_sI ?_ (by omega) | with_reducible refine Zc_sL ?_ | with_reducible refine Zc_cpI ?_ (by omega)
theorem z_fX7_pass_b24 {c1 : Nat} (hc1 : c1 ≤ 10 ∨ 17 ≤ c1) : ∀ (n : Nat) (v0 : Int32) (v1 : Int32) (v2 : Int32) (M : Mm), Zc M → Pz (fX7_pass_b24 c1 n v0 v1 v2 M) := by
  intro n
  induction n with
  | zero => intros; exact Pz_none
  | succ n ih =>
    intro v0 v1 v2 M h
    rw [fX7_pass_b24]
    repeat' first | assumption | with_reducible refine z_fX7_draw ?_ | with_reducible refine ih _ _ _ _ ?_ | with_reducible exact Pz_none | with_reducible refine Pz_some ?_ | with_reducible refine Pz_ite ?_ ?_ | with_reducible refine Pz_gd ?_ | with_reducible refine Pz_bd ?_ (fun _ _ _ => ?_) | with_reducible refine Pz_lt ?_ | with_reducible refine Zc_sI ?_ (by omega) | with_reducible refine Zc_sL ?_ | with_reducible refine Zc_cpI ?_ (by omega)
theorem z_fX7_pass {c1 : Nat} {x2 : Int32} {x3 : Int32} {M : Mm} (hc1 : c1 ≤ 10 ∨ 17 ≤ c1) (h : Zc M) : Pz (fX7_pass c1 x2 x3 M) := by
  unfold fX7_pass
  repeat' first | assumption | exact imgC_r _ | omega | with_reducible refine z_fX0_copyFrom ?_ ?_ ?_ | with_reducible refine z_fX7_pass_b24 ?_ _ _ _ _ _ ?_ | with_reducible exact Pz_none | with_reducible refine Pz_some ?_ | with_reducible refine Pz_ite ?_ ?_ | with_reducible refine Pz_gd ?_ | with_reducible refine Pz_bd ?_ (fun _ _ _ => ?_) | with_reducible refine Pz_lt ?_ | with_reducible refine Zc_sI ?_ (by omega) | with_reducible refine Zc_sL ?_ | with_reducible refine Zc_cpI ?_ (by omega)
theorem z_fX8_year {x1 : Int32} {x2 : Int32} {x3 : Int32} {M : Mm} (h : Zc M) : Pz (fX8_year x1 x2 x3 M) := by
  unfold fX8_year
  repeat' first | assumption | exact imgC_r _ | omega | with_reducible refine z_fX8_isWithin ?_ | with_reducible refine z_fX7_pass ?_ ?_ | with_reducible exact Pz_none | with_reducible refine Pz_some ?_ | with_reducible refine Pz_ite ?_ ?_ | with_reducible refine Pz_gd ?_ | with_reducible refine Pz_bd ?_ (fun _ _ _ => ?_) | with_reducible refine Pz_lt ?_ | with_reducible refine Zc_sI ?_ (by omega) | with_reducible refine Zc_sL ?_ | with_reducible refine Zc_cpI ?_ (by omega)
theorem z_fX8_image {x1 : Int32} {M : Mm} (h : Zc M) : Pz (fX8_image x1 M) := by
  unfold fX8_image
  repeat' first | assumption | exact imgC_r _ | omega | with_reducible refine z_fX8_isWithin ?_ | with_reducible refine z_fX0_copyFrom ?_ ?_ ?_ | with_reducible exact Pz_none | with_reducible refine Pz_some ?_ | with_reducible refine Pz_ite ?_ ?_ | with_reducible refine Pz_gd ?_ | with_reducible refine Pz_bd ?_ (fun _ _ _ => ?_) | with_reducible refine Pz_lt ?_ | with_reducible refine Zc_sI ?_ (by omega) | with_reducible refine Zc_sL ?_ | with_reducible refine Zc_cpI ?_ (by omega)
theorem z_fX8_restore {x1 : Int32} {M : Mm} (h : Zc M) : Pz (fX8_restore x1 M) := by
  unfold fX8_restore
  repeat' first | assumption | exact imgC_r _ | omega | with_reducible refine z_fX8_isWithin ?_ | with_reducible refine z_fX0_copyFrom ?_ ?_ ?_ | with_reducible exact Pz_none | with_reducible refine Pz_some ?_ | with_reducible refine Pz_ite ?_ ?_ | with_reducible refine Pz_gd ?_ | with_reducible refine Pz_bd ?_ (fun _ _ _ => ?_) | with_reducible refine Pz_lt ?_ | with_reducible refine Zc_sI ?_ (by omega) | with_reducible refine Zc_sL ?_ | with_reducible refine Zc_cpI ?_ (by omega)
theorem z_fX8_toldCount {x1 : Int32} {M : Mm} (h : Zc M) : Pz (fX8_toldCount x1 M) := by
  unfold fX8_toldCount
  repeat' first | assumption | with_reducible exact Pz_none | with_reducible refine Pz_some ?_ | with_reducible refine Pz_ite ?_ ?_ | with_reducible refine Pz_gd ?_ | with_reducible refine Pz_bd ?_ (fun _ _ _ => ?_) | with_reducible refine Pz_lt ?_ | with_reducible refine Zc_sI ?_ (by omega) | with_reducible refine Zc_sL ?_ | with_reducible refine Zc_cpI ?_ (by omega)
theorem z_fX8_told_b77 {v1 : Int32} {M : Mm} (h : Zc M) : Pz (fX8_told_b77 v1 M) := by
  unfold fX8_told_b77
  repeat' first | assumption | exact imgC_r _ | omega | with_reducible refine z_fX8_isWithin ?_ | with_reducible refine z_fX0_isThere ?_ ?_ | with_reducible exact Pz_none | with_reducible refine Pz_some ?_ | with_reducible refine Pz_ite ?_ ?_ | with_reducible refine Pz_gd ?_ | with_reducible refine Pz_bd ?_ (fun _ _ _ => ?_) | with_reducible refine Pz_lt ?_ | with_reducible refine Zc_sI ?_ (by omega) | with_reducible refine Zc_sL ?_ | with_reducible refine Zc_cpI ?_ (by omega)
theorem z_fX8_told {x1 : Int32} {M : Mm} (h : Zc M) : Pz (fX8_told x1 M) := by
  unfold fX8_told
  repeat' first | assumption | exact imgC_r _ | omega | with_reducible refine z_fX8_isWithin ?_ | with_reducible refine z_fX8_told_b77 ?_ | with_reducible refine z_fX0_isThere ?_ ?_ | with_reducible refine z_fX8_toldCount ?_ | with_reducible exact Pz_none | with_reducible refine Pz_some ?_ | with_reducible refine Pz_ite ?_ ?_ | with_reducible refine Pz_gd ?_ | with_reducible refine Pz_bd ?_ (fun _ _ _ => ?_) | with_reducible refine Pz_lt ?_ | with_reducible refine Zc_sI ?_ (by omega) | with_reducible refine Zc_sL ?_ | with_reducible refine Zc_cpI ?_ (by omega)
theorem op2_officer : Op_officer Rl2 := by
  intro a0 a1 Mx M_ h
  obtain ⟨r, Mx1, M1, e1, e2, hR⟩ := op_officer a0 a1 Mx M_ h.1
  exact ⟨r, Mx1, M1, e1, e2, hR, z_fX8_officer h.2 _ _ e1⟩
theorem op2_leave : Op_leave Rl2 := by
  intro a0 Mx M_ h
  obtain ⟨r, Mx1, M1, e1, e2, hR⟩ := op_leave a0 Mx M_ h.1
  exact ⟨r, Mx1, M1, e1, e2, hR, z_fX8_leave h.2 _ _ e1⟩
theorem op2_rate : Op_rate Rl2 := by
  intro a0 a1 Mx M_ h
  obtain ⟨r, Mx1, M1, e1, e2, hR⟩ := op_rate a0 a1 Mx M_ h.1
  exact ⟨r, Mx1, M1, e1, e2, hR, z_fX8_rate h.2 _ _ e1⟩
theorem op2_trust : Op_trust Rl2 := by
  intro a0 Mx M_ h
  obtain ⟨r, Mx1, M1, e1, e2, hR⟩ := op_trust a0 Mx M_ h.1
  exact ⟨r, Mx1, M1, e1, e2, hR, z_fX8_trust h.2 _ _ e1⟩
theorem op2_say : Op_say Rl2 := by
  intro a0 Mx M_ h
  obtain ⟨r, Mx1, M1, e1, e2, hR⟩ := op_say a0 Mx M_ h.1
  exact ⟨r, Mx1, M1, e1, e2, hR, z_fX8_say h.2 _ _ e1⟩
theorem op2_wipe : Op_wipe Rl2 := by
  intro  Mx M_ h
  obtain ⟨r, Mx1, M1, e1, e2, hR⟩ := op_wipe  Mx M_ h.1
  exact ⟨r, Mx1, M1, e1, e2, hR, z_fX8_wipe h.2 _ _ e1⟩
theorem op2_fault : Op_fault Rl2 := by
  intro  Mx M_ h
  obtain ⟨r, Mx1, M1, e1, e2, hR⟩ := op_fault  Mx M_ h.1
  exact ⟨r, Mx1, M1, e1, e2, hR, z_fX8_fault h.2 _ _ e1⟩
theorem op2_judge : Op_judge Rl2 := by
  intro a0 Mx M_ h
  obtain ⟨r, Mx1, M1, e1, e2, hR⟩ := op_judge a0 Mx M_ h.1
  exact ⟨r, Mx1, M1, e1, e2, hR, z_fX8_judge h.2 _ _ e1⟩
theorem op2_behind : Op_behind Rl2 := by
  intro a0 a1 Mx M_ h
  obtain ⟨r, Mx1, M1, e1, e2, hR⟩ := op_behind a0 a1 Mx M_ h.1
  exact ⟨r, Mx1, M1, e1, e2, hR, z_fX8_behind h.2 _ _ e1⟩
theorem op2_ledger : Op_ledger Rl2 := by
  intro a0 Mx M_ h
  obtain ⟨r, Mx1, M1, e1, e2, hR⟩ := op_ledger a0 Mx M_ h.1
  exact ⟨r, Mx1, M1, e1, e2, hR, z_fX8_ledger h.2 _ _ e1⟩
theorem op2_done : Op_done Rl2 := by
  intro  Mx M_ h
  obtain ⟨r, Mx1, M1, e1, e2, hR⟩ := op_done  Mx M_ h.1
  exact ⟨r, Mx1, M1, e1, e2, hR, z_fX8_done h.2 _ _ e1⟩
theorem op2_owed : Op_owed Rl2 := by
  intro  Mx M_ h
  obtain ⟨r, Mx1, M1, e1, e2, hR⟩ := op_owed  Mx M_ h.1
  exact ⟨r, Mx1, M1, e1, e2, hR, z_fX8_owed h.2 _ _ e1⟩
theorem op2_even : Op_even Rl2 := by
  intro  Mx M_ h
  obtain ⟨r, Mx1, M1, e1, e2, hR⟩ := op_even  Mx M_ h.1
  exact ⟨r, Mx1, M1, e1, e2, hR, z_fX8_even h.2 _ _ e1⟩
theorem op2_fair : Op_fair Rl2 := by
  intro a0 Mx M_ h
  obtain ⟨r, Mx1, M1, e1, e2, hR⟩ := op_fair a0 Mx M_ h.1
  exact ⟨r, Mx1, M1, e1, e2, hR, z_fX8_fair h.2 _ _ e1⟩
theorem op2_seen : Op_seen Rl2 := by
  intro a0 a1 a2 Mx M_ h3 h
  obtain ⟨r, Mx1, M1, e1, e2, hR⟩ := op_seen a0 a1 a2 Mx M_ h3 h.1
  exact ⟨r, Mx1, M1, e1, e2, hR, z_fX8_seen h.2 _ _ e1⟩
theorem op2_forget : Op_forget Rl2 := by
  intro  Mx M_ h
  obtain ⟨r, Mx1, M1, e1, e2, hR⟩ := op_forget  Mx M_ h.1
  exact ⟨r, Mx1, M1, e1, e2, hR, z_fX8_forget h.2 _ _ e1⟩
theorem op2_broken : Op_broken Rl2 := by
  intro a0 a1 a2 Mx M_ h
  obtain ⟨r, Mx1, M1, e1, e2, hR⟩ := op_broken a0 a1 a2 Mx M_ h.1
  exact ⟨r, Mx1, M1, e1, e2, hR, z_fX8_broken h.2 _ _ e1⟩
theorem op2_rests : Op_rests Rl2 := by
  intro a0 a1 a2 a3 Mx M_ h
  obtain ⟨r, Mx1, M1, e1, e2, hR⟩ := op_rests a0 a1 a2 a3 Mx M_ h.1
  exact ⟨r, Mx1, M1, e1, e2, hR, z_fX8_rests h.2 _ _ e1⟩
theorem op2_year : Op_year Rl2 := by
  intro a0 a1 a2 Mx M_ h
  obtain ⟨r, Mx1, M1, e1, e2, hR⟩ := op_year a0 a1 a2 Mx M_ h.1
  exact ⟨r, Mx1, M1, e1, e2, hR, z_fX8_year h.2 _ _ e1⟩
theorem op2_image : Op_image Rl2 := by
  intro a0 Mx M_ h
  obtain ⟨r, Mx1, M1, e1, e2, hR⟩ := op_image a0 Mx M_ h.1
  exact ⟨r, Mx1, M1, e1, e2, hR, z_fX8_image h.2 _ _ e1⟩
theorem op2_restore : Op_restore Rl2 := by
  intro a0 Mx M_ h
  obtain ⟨r, Mx1, M1, e1, e2, hR⟩ := op_restore a0 Mx M_ h.1
  exact ⟨r, Mx1, M1, e1, e2, hR, z_fX8_restore h.2 _ _ e1⟩
theorem op2_told : Op_told Rl2 := by
  intro a0 Mx M_ h
  obtain ⟨r, Mx1, M1, e1, e2, hR⟩ := op_told a0 Mx M_ h.1
  exact ⟨r, Mx1, M1, e1, e2, hR, z_fX8_told h.2 _ _ e1⟩
