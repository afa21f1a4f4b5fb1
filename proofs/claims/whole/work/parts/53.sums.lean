/-! PURE, 4: sets of goods, sums over them -/
theorem tb (S g : Nat) : (S >>> g) &&& 1 = (S.testBit g).toNat := by
  rw [Nat.and_one_is_mod, Nat.testBit_eq_decide_div_mod_eq, Nat.shiftRight_eq_div_pow]
  rcases Nat.mod_two_eq_zero_or_one (S / 2 ^ g) with h | h <;> rw [h] <;> rfl
theorem m_has {S g : Nat} (hS : S < 2 ^ 31) (hg : g < 32) : f_X7_has (nI S) (nI g) = if S.testBit g then nI 1 else nI 0 := by
  rw [f_X7_has, lit 31, lit 1, lit 0, nI_and, and31 hg, nI_shr hS hg, nI_and, tb]
  cases S.testBit g
  · rw [if_neg (by decide +kernel)]; rfl
  · rw [if_pos (by decide +kernel)]; rfl
theorem n10 : ¬ nI 1 = nI 0 := by decide +kernel
def sumN (R : Nat → Nat) (w S : Nat) : Nat → Nat
  | 0 => 0
  | g + 1 => sumN R w S g + if S.testBit g then R (133 + 4 * g + w) else 0
def sumS (R : Nat → Nat) (w S : Nat) : Nat := sumN R w S (R 1)
theorem good_le {R : Nat → Nat} (hR : RowOk R) {g w : Nat} (hg : g < R 1) (hw : w < 3) : R (133 + 4 * g + w) ≤ 999 := by
  have h := hR.2.2.2.2.1 g hg
  rcases (show w = 0 ∨ w = 1 ∨ w = 2 by omega) with rfl | rfl | rfl
  · have := h.1.2; rw [Nat.add_zero]; omega
  · have := h.2.1.2; rw [show 133 + 4 * g + 1 = 134 + 4 * g by omega]; exact this
  · have := h.2.2.2; rw [show 133 + 4 * g + 2 = 135 + 4 * g by omega]; exact this
theorem sumN_le {R : Nat → Nat} (hR : RowOk R) {w S : Nat} (hw : w < 3) : ∀ g : Nat, g ≤ R 1 → sumN R w S g ≤ 999 * g := by
  intro g
  induction g with
  | zero => intro _; exact Nat.le_refl _
  | succ g ih =>
    intro h
    have h1 := ih (by omega)
    have h2 := good_le hR (g := g) (by omega) hw
    rw [sumN]
    split <;> omega
theorem sumN_le0 {R : Nat → Nat} (hR : RowOk R) {S : Nat} : ∀ g : Nat, g ≤ R 1 → sumN R 0 S g ≤ 99 * g := by
  intro g
  induction g with
  | zero => intro _; exact Nat.le_refl _
  | succ g ih =>
    intro h
    have h1 := ih (by omega)
    have h2 := (hR.2.2.2.2.1 g (by omega)).1.2
    rw [sumN, Nat.add_zero]
    split <;> omega
theorem sumS_le {R : Nat → Nat} (hR : RowOk R) {w S : Nat} (hw : w < 3) : sumS R w S ≤ 7992 := by
  have h1 := sumN_le hR (S := S) hw (R 1) (Nat.le_refl _)
  have h2 := hR.1.2.2.1
  rw [sumS]; omega
theorem sumS_le0 {R : Nat → Nat} (hR : RowOk R) {S : Nat} : sumS R 0 S ≤ 792 := by
  have h1 := sumN_le0 hR (S := S) (R 1) (Nat.le_refl _)
  have h2 := hR.1.2.2.1
  rw [sumS]; omega
section SUMS
variable {R : Nat → Nat} {bA bB bZ bG bP bQ : Nat → Int32} {bC bM : Int32} {mN : Nat → Int32}
theorem m_sumL (hR : RowOk R) (h : RowM R mN) {S w : Nat} (hS : S < 2 ^ 31) (hw : w < 3) : ∀ (n g : Nat), R 1 < g + n → g ≤ R 1 →
    f_X7_sumOf_L5 (nI S) (nI w) mN n (nI (sumN R w S g)) (nI g) = (nI (sumS R w S), nI (R 1)) ∧ k_X7_sumOf_L5 (nI S) (nI w) mN n (nI (sumN R w S g)) (nI g) := by
  have h3 := hR.1.2.2.1
  intro n
  induction n with
  | zero => intro k h1 h2; omega
  | succ n ih =>
    intro g h1 h2
    rw [f_X7_sumOf_L5, k_X7_sumOf_L5, lit 1, m_at h (i := 1) (by omega)]
    by_cases h5 : g = R 1
    · rw [if_pos (nI_le (by omega) (by omega)), if_pos (nI_le (by omega) (by omega)), h5]
      exact ⟨rfl, trivial⟩
    · have hg : g < R 1 := by omega
      have e1 := m_goodOf h (g := g) (w := w) (by omega)
      rw [if_neg (nI_ge hg (by omega)), if_neg (nI_ge hg (by omega)), m_has hS (by omega), e1.1, lit 0]
      simp only [nI_add]
      have h7 := ih (g + 1) (by omega) (by omega)
      rw [sumN] at h7
      by_cases h8 : S.testBit g = true
      · rw [if_pos h8] at h7
        rw [if_pos h8, if_neg n10, if_neg n10]
        exact ⟨h7.1, e1.2, h7.2⟩
      · rw [if_neg h8, Nat.add_zero] at h7
        rw [if_neg h8, if_pos rfl, if_pos rfl]
        exact h7
theorem m_sum (hR : RowOk R) (h : RowM R mN) {S w : Nat} (hS : S < 2 ^ 31) (hw : w < 3) : f_X7_sumOf (nI S) (nI w) mN = nI (sumS R w S) ∧ k_X7_sumOf (nI S) (nI w) mN := by
  have h3 := hR.1.2.2.1
  obtain ⟨h1, h2⟩ := m_sumL hR h hS hw FU 0 (by have := FU_big (n := R 1) (by omega); omega) (by omega)
  rw [f_X7_sumOf, k_X7_sumOf]
  exact ⟨congrArg Prod.fst h1, h2, trivial⟩
end SUMS
/-- what the class has learned of the book -/
def isLong (R : Nat → Nat) (c g : Nat) : Bool := decide (R (8 + 43 * c) < R (135 + 4 * g))
def longN (R : Nat → Nat) (c : Nat) : Nat → Nat
  | 0 => 0
  | g + 1 => if isLong R c g then longN R c g ||| 1 <<< g else longN R c g
def PricesC (R : Nat → Nat) (rK rL rG : Nat → Int32) : Prop := (∀ S : Nat, S < 2 ^ R 1 → rK S = nI (sumS R 0 S) ∧ rL S = nI (sumS R 1 S)) ∧ ∀ c : Nat, c < R 0 → rG c = nI (longN R c (R 1))
theorem longN_tb {R : Nat → Nat} {c : Nat} : ∀ (m g : Nat), (longN R c m).testBit g = (decide (g < m) && isLong R c g) := by
  intro m
  induction m with
  | zero => intro g; rw [longN, Nat.zero_testBit]; simp
  | succ m ih =>
    intro g
    rw [longN]
    by_cases h : isLong R c m = true
    · rw [if_pos h, Nat.testBit_or, ih, Nat.one_shiftLeft, Nat.testBit_two_pow]
      by_cases h1 : m = g
      · subst h1; simp [h]
      · have : (g < m + 1) ↔ (g < m) := by omega
        simp [h1, this]
    · rw [if_neg h, ih]
      by_cases h1 : m = g
      · subst h1
        have h2 : isLong R c m = false := by simpa using h
        simp [h2]
      · have : (g < m + 1) ↔ (g < m) := by omega
        simp [this]
theorem longN_lt {R : Nat → Nat} {c : Nat} (m : Nat) : longN R c m < 2 ^ m := by
  apply Nat.lt_pow_two_of_testBit
  intro i hi
  rw [longN_tb]
  have : ¬ i < m := by omega
  simp [this]
/-- the long goods of a set -/
def cntN (R : Nat → Nat) (c S : Nat) : Nat → Nat
  | 0 => 0
  | g + 1 => cntN R c S g + if (S.testBit g && isLong R c g) then 1 else 0
def popN (S : Nat) : Nat → Nat
  | 0 => 0
  | g + 1 => popN S g + (S.testBit g).toNat
theorem pop_bits : ∀ S : Fin 256, f_J6_bitCount_0f7a4 (Int32.ofNat S.val) = Int32.ofNat (popN S.val 8) := by decide +kernel
theorem c_pop {S : Nat} (h : S < 256) : f_J6_bitCount_0f7a4 (nI S) = nI (popN S 8) := pop_bits ⟨S, h⟩
theorem cnt_pop {R : Nat → Nat} {c S M : Nat} : ∀ m : Nat, popN (S &&& longN R c M) m = cntN R c S (min m M) := by
  intro m
  induction m with
  | zero => rw [Nat.zero_min]; rfl
  | succ m ih =>
    rw [popN, ih, Nat.testBit_and, longN_tb]
    by_cases h : m < M
    · rw [show min (m + 1) M = m + 1 by omega, show min m M = m by omega, cntN]
      cases S.testBit m <;> cases isLong R c m <;> simp [h]
    · rw [show min (m + 1) M = M by omega, show min m M = M by omega]
      simp [h]
theorem cntN_le {R : Nat → Nat} {c S : Nat} : ∀ m : Nat, cntN R c S m ≤ m := by
  intro m
  induction m with
  | zero => exact Nat.le_refl _
  | succ m ih => rw [cntN]; split <;> omega
