/-! PURE, 11: the bound: the least of ceilings is the ceiling of the least fraction -/
def ceilD (W q u : Nat) : Nat := (W * q + u - 1) / u
theorem ceil_le {a u m : Nat} (hu : 0 < u) : (a + u - 1) / u ≤ m ↔ a ≤ m * u := by
  rw [Nat.div_le_iff_le_mul_add_pred hu, Nat.mul_comm u m]
  generalize m * u = t
  omega
theorem ceil_mono {W q1 u1 q2 u2 : Nat} (h1 : 0 < u1) (h2 : 0 < u2) (h : q1 * u2 ≤ q2 * u1) : ceilD W q1 u1 ≤ ceilD W q2 u2 := by
  rw [ceilD, ceil_le h1]
  have h3 : W * q2 ≤ ceilD W q2 u2 * u2 := (ceil_le h2).mp (Nat.le_refl _)
  apply Nat.le_of_mul_le_mul_right _ h2
  calc W * q1 * u2 = W * (q1 * u2) := by rw [Nat.mul_assoc]
    _ ≤ W * (q2 * u1) := Nat.mul_le_mul_left W h
    _ = W * q2 * u1 := by rw [Nat.mul_assoc]
    _ ≤ ceilD W q2 u2 * u2 * u1 := Nat.mul_le_mul_right u1 h3
    _ = ceilD W q2 u2 * u1 * u2 := by rw [Nat.mul_assoc, Nat.mul_comm u2 u1, ← Nat.mul_assoc]
/-- the least so far, and one more -/
def minO : Option Nat → Nat → Option Nat
  | none, n => some n
  | some m, n => if m ≤ n then some m else some n
/-- the model's fraction so far, and one more -/
def fracO : Option (Nat × Nat) → Nat → Nat → Option (Nat × Nat)
  | none, q, u => some (q, u)
  | some (a, b), q, u => if q * b < a * u then some (q, u) else some (a, b)
def ceilO (W : Nat) : Option (Nat × Nat) → Option Nat
  | none => none
  | some (a, b) => some (ceilD W a b)
def posO : Option (Nat × Nat) → Prop
  | none => True
  | some (a, b) => a ≤ 999 ∧ 1 ≤ b ∧ b ≤ 99
theorem frac_min {W q u : Nat} {o : Option (Nat × Nat)} (hu : 1 ≤ u) (ho : posO o) : ceilO W (fracO o q u) = minO (ceilO W o) (ceilD W q u) := by
  cases o with
  | none => rfl
  | some ab =>
    obtain ⟨a, b⟩ := ab
    rw [fracO, ceilO, minO]
    by_cases h : q * b < a * u
    · rw [if_pos h, ceilO]
      have h1 : ceilD W q u ≤ ceilD W a b := ceil_mono hu ho.2.1 (Nat.le_of_lt h)
      by_cases h2 : ceilD W a b ≤ ceilD W q u
      · rw [if_pos h2, Nat.le_antisymm h1 h2]
      · rw [if_neg h2]
    · rw [if_neg h, ceilO, if_pos (ceil_mono ho.2.1 hu (by omega))]
theorem frac_pos {q u : Nat} {o : Option (Nat × Nat)} (hq : q ≤ 999) (hu : 1 ≤ u) (hu9 : u ≤ 99) (ho : posO o) : posO (fracO o q u) := by
  cases o with
  | none => exact ⟨hq, hu, hu9⟩
  | some ab =>
    obtain ⟨a, b⟩ := ab
    rw [fracO]
    split
    · exact ⟨hq, hu, hu9⟩
    · exact ho
theorem minO_some (m n : Nat) : minO (some m) n = some (min m n) := by
  rw [minO]
  split
  · rw [Nat.min_eq_left (by assumption)]
  · rw [Nat.min_eq_right (by omega)]
theorem minO_assoc {o : Option Nat} {a b : Nat} : minO (minO o a) b = minO o (min a b) := by
  cases o with
  | none => exact minO_some a b
  | some m => rw [minO_some, minO_some, minO_some, Nat.min_assoc]
