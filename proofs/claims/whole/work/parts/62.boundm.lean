/-! PURE, 13: the bound, class's loop over carriers and model's loops -/
def bndN (R : Nat → Nat) (c z W : Nat) : Option Nat := bndR R c z W (R (10 + 43 * c))
/-- the least over carriers -/
def lowR (R : Nat → Nat) (W : Nat) : Nat → Option Nat
  | 0 => none
  | c + 1 => if zoneN R c (R 2) (R 3) = 3 then lowR R W c else match bndN R c (zoneN R c (R 2) (R 3)) W with
    | none => lowR R W c
    | some n => minO (lowR R W c) n
/-- the model's fraction, over the lines of a carrier, over carriers -/
def frcR (R : Nat → Nat) (c z : Nat) (o : Option (Nat × Nat)) : Nat → Option (Nat × Nat)
  | 0 => o
  | k + 1 => fracO (frcR R c z o k) (R (12 + 43 * c + 4 * k + z)) (R (11 + 43 * c + 4 * k))
def frcN (R : Nat → Nat) : Nat → Option (Nat × Nat)
  | 0 => none
  | c + 1 => if zoneN R c (R 2) (R 3) = 3 then frcN R c else frcR R c (zoneN R c (R 2) (R 3)) (frcN R c) (R (10 + 43 * c))
theorem frcR_pos {R : Nat → Nat} (hR : RowOk R) {c z : Nat} {o : Option (Nat × Nat)} (hc : c < R 0) (hz : z < 3) (ho : posO o) : ∀ k : Nat, k ≤ R (10 + 43 * c) → posO (frcR R c z o k) := by
  intro k
  induction k with
  | zero => intro _; exact ho
  | succ k ih =>
    intro hk
    have h1 := hR.2.2.1 c k hc (by omega)
    exact frac_pos (h1.2 z hz) h1.1.1 h1.1.2 (ih (by omega))
theorem frcR_min {R : Nat → Nat} (hR : RowOk R) {c z W : Nat} {o : Option (Nat × Nat)} (hc : c < R 0) (hz : z < 3) (ho : posO o) : ∀ k : Nat, k ≤ R (10 + 43 * c) → ceilO W (frcR R c z o k) = match bndR R c z W k with
    | none => ceilO W o
    | some n => minO (ceilO W o) n := by
  intro k
  induction k with
  | zero => intro _; rfl
  | succ k ih =>
    intro hk
    have h1 := hR.2.2.1 c k hc (by omega)
    rw [frcR, frac_min h1.1.1 (frcR_pos hR hc hz ho k (by omega)), ih (by omega), bndR]
    cases bndR R c z W k with
    | none => rfl
    | some n => rw [minO_some]; exact minO_assoc
theorem frcN_min {R : Nat → Nat} (hR : RowOk R) {W : Nat} : ∀ c : Nat, c ≤ R 0 → posO (frcN R c) ∧ ceilO W (frcN R c) = lowR R W c := by
  have h0 := hR.1
  intro c
  induction c with
  | zero => intro _; exact ⟨trivial, rfl⟩
  | succ c ih =>
    intro hc
    obtain ⟨h1, h2⟩ := ih (by omega)
    have hz := zoneN_le hR (c := c) (pl := R 2) (dy := R 3) (by omega) (by omega)
    rw [frcN, lowR]
    by_cases h3 : zoneN R c (R 2) (R 3) = 3
    · rw [if_pos h3, if_pos h3]; exact ⟨h1, h2⟩
    · rw [if_neg h3, if_neg h3]
      refine ⟨frcR_pos hR (by omega) (by omega) h1 _ (Nat.le_refl _), ?_⟩
      rw [frcR_min hR (W := W) (by omega) (by omega) h1 _ (Nat.le_refl _), h2]
      rfl
