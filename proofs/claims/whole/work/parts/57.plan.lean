/-! PURE, 8: the plan -/
def PlanOf (R : Nat → Nat) (pS : Nat → Int32) : Prop := (∀ g : Nat, g < 8 → pS g = nI (R (136 + 4 * g)) - nI 1) ∧ (∀ q : Nat, q < 8 → pS (8 + q) = nI (R (165 + 2 * q)) ∧ pS (16 + q) = nI (R (166 + 2 * q))) ∧ pS 24 = nI (R 2) ∧ pS 25 = nI (R 3)
theorem pm_eq {a q : Nat} (ha : a < 2 ^ 31) (hq : q < 2 ^ 31) : nI a - nI 1 = nI q - nI 1 ↔ a = q := by
  constructor
  · intro h
    have h1 := congrArg (· + nI 1) h
    simp only [Int32.sub_add_cancel] at h1
    exact (nI_eq ha hq).mp h1
  · intro h; rw [h]
def inN (R : Nat → Nat) (q : Nat) : Nat → Nat
  | 0 => 0
  | g + 1 => if R (136 + 4 * g) = q then inN R q g ||| 1 <<< g else inN R q g
theorem inN_tb {R : Nat → Nat} {q : Nat} : ∀ (m g : Nat), (inN R q m).testBit g = (decide (g < m) && decide (R (136 + 4 * g) = q)) := by
  intro m
  induction m with
  | zero => intro g; rw [inN, Nat.zero_testBit]; simp
  | succ m ih =>
    intro g
    rw [inN]
    by_cases h : R (136 + 4 * m) = q
    · rw [if_pos h, Nat.testBit_or, ih, Nat.one_shiftLeft, Nat.testBit_two_pow]
      by_cases h1 : m = g
      · subst h1; simp [h]
      · have : (g < m + 1) ↔ (g < m) := by omega
        simp [h1, this]
    · rw [if_neg h, ih]
      by_cases h1 : m = g
      · subst h1; simp [h]
      · have : (g < m + 1) ↔ (g < m) := by omega
        simp [this]
theorem inN_lt {R : Nat → Nat} {q : Nat} (m : Nat) : inN R q m < 2 ^ m := by
  apply Nat.lt_pow_two_of_testBit
  intro i hi
  rw [inN_tb]
  have : ¬ i < m := by omega
  simp [this]
theorem inN_8 {R : Nat → Nat} (hR : RowOk R) {q : Nat} (hq : 1 ≤ q) : inN R q 8 = inN R q (R 1) := by
  have h1 := hR.1.2.2.1
  apply Nat.eq_of_testBit_eq
  intro g
  rw [inN_tb, inN_tb]
  by_cases h2 : g < 8
  · by_cases h3 : g < R 1
    · simp [h2, h3]
    · have h4 := (hR.2.2.2.2.2.1 g h2).2 (by omega)
      have h5 : ¬ R (136 + 4 * g) = q := by omega
      simp [h5]
  · have h3 : ¬ g < R 1 := by omega
    simp [h2, h3]
section PLAN
variable {R : Nat → Nat} {pS mN : Nat → Int32}
theorem p_parcelOf (h : PlanOf R pS) {g : Nat} (hg : g < 8) : f_X1_parcelOf (nI g) pS = nI (R (136 + 4 * g)) - nI 1 := by
  rw [f_X1_parcelOf, at_in (by omega) (by omega), h.1 g hg]
theorem p_carrierOf (h : PlanOf R pS) {q : Nat} (hq : q < 8) : f_X1_carrierOf (nI q) pS = nI (R (165 + 2 * q)) := by
  rw [f_X1_carrierOf, lit 8, nI_add, at_in (by omega) (by omega), (h.2.1 q hq).1]
theorem p_claimedOf (h : PlanOf R pS) {q : Nat} (hq : q < 8) : f_X1_claimedOf (nI q) pS = nI (R (166 + 2 * q)) := by
  rw [f_X1_claimedOf, lit 16, nI_add, at_in (by omega) (by omega), (h.2.1 q hq).2]
theorem m_parcelOf (h : RowM R mN) {g : Nat} (hg : g < 8) : f_X7_parcelOf (nI g) mN = nI (R (136 + 4 * g)) - nI 1 ∧ k_X7_parcelOf (nI g) := by
  have e1 := m_goodOf h (g := g) (w := 3) (by omega)
  rw [show 133 + 4 * g + 3 = 136 + 4 * g by omega] at e1
  rw [f_X7_parcelOf, k_X7_parcelOf, lit 3, lit 1, e1.1]
  exact ⟨rfl, e1.2, trivial⟩
theorem c_inL (hR : RowOk R) (h : PlanOf R pS) {q : Nat} (hq : q < 2 ^ 31) : ∀ (n g : Nat), 8 < g + n → g ≤ 8 →
    f_X1_goodsIn_L4 (nI q - nI 1) pS n (nI (inN R q g)) (nI g) = (nI (inN R q 8), nI 8) ∧ k_X1_goodsIn_L4 (nI q - nI 1) pS n (nI (inN R q g)) (nI g) := by
  intro n
  induction n with
  | zero => intro k h1 h2; omega
  | succ n ih =>
    intro g h1 h2
    rw [f_X1_goodsIn_L4, k_X1_goodsIn_L4, lit 8]
    by_cases h5 : g = 8
    · have g5 : nI 8 ≤ nI g := nI_le (by omega) (by omega)
      rw [if_pos g5, if_pos g5, h5]
      exact ⟨rfl, trivial⟩
    · have hg : g < 8 := by omega
      have g5 : ¬ nI 8 ≤ nI g := nI_ge hg (by omega)
      have hi := (hR.2.2.2.2.2.1 g hg).1
      have h7 := ih (g + 1) (by omega) (by omega)
      rw [inN] at h7
      rw [if_neg g5, if_neg g5, p_parcelOf h hg, lit 31, lit 1, nI_and, and31 (by omega), nI_shl (by omega), nI_or, nI_add]
      by_cases h8 : R (136 + 4 * g) = q
      · have g8 := (pm_eq (a := R (136 + 4 * g)) (by omega) hq).mpr h8
        rw [if_pos h8] at h7
        rw [if_pos g8, if_pos g8]
        exact h7
      · have g8 : ¬ nI (R (136 + 4 * g)) - nI 1 = nI q - nI 1 := fun e => h8 ((pm_eq (by omega) hq).mp e)
        rw [if_neg h8] at h7
        rw [if_neg g8, if_neg g8]
        exact h7
theorem c_in (hR : RowOk R) (h : PlanOf R pS) {q : Nat} (hq : q < 2 ^ 31) : f_X1_goodsIn (nI q - nI 1) pS = nI (inN R q 8) ∧ k_X1_goodsIn (nI q - nI 1) pS := by
  obtain ⟨h1, h2⟩ := c_inL hR h hq FU 0 (by have := FU_big (n := 8) (by omega); omega) (by omega)
  rw [f_X1_goodsIn, k_X1_goodsIn]
  exact ⟨congrArg Prod.fst h1, h2, trivial⟩
theorem m_inL (hR : RowOk R) (h : RowM R mN) {q : Nat} (hq : q < 2 ^ 31) : ∀ (n g : Nat), R 1 < g + n → g ≤ R 1 →
    f_X7_inParcel_L4 (nI q - nI 1) mN n (nI (inN R q g)) (nI g) = (nI (inN R q (R 1)), nI (R 1)) ∧ k_X7_inParcel_L4 (nI q - nI 1) mN n (nI (inN R q g)) (nI g) := by
  have h3 := hR.1.2.2.1
  intro n
  induction n with
  | zero => intro k h1 h2; omega
  | succ n ih =>
    intro g h1 h2
    rw [f_X7_inParcel_L4, k_X7_inParcel_L4, lit 1, m_at h (i := 1) (by omega)]
    by_cases h5 : g = R 1
    · have g5 : nI (R 1) ≤ nI g := nI_le (by omega) (by omega)
      rw [if_pos g5, if_pos g5, h5]
      exact ⟨rfl, trivial⟩
    · have hg : g < R 1 := by omega
      have g5 : ¬ nI (R 1) ≤ nI g := nI_ge hg (by omega)
      have hi := (hR.2.2.2.2.2.1 g (by omega)).1
      have e1 := m_parcelOf h (g := g) (by omega)
      have h7 := ih (g + 1) (by omega) (by omega)
      rw [inN] at h7
      rw [if_neg g5, if_neg g5, e1.1, lit 31, nI_and, and31 (by omega), nI_shl (by omega), nI_or, nI_add]
      by_cases h8 : R (136 + 4 * g) = q
      · have g8 := (pm_eq (a := R (136 + 4 * g)) (by omega) hq).mpr h8
        rw [if_pos h8] at h7
        rw [if_pos g8, if_pos g8]
        exact ⟨h7.1, e1.2, h7.2⟩
      · have g8 : ¬ nI (R (136 + 4 * g)) - nI 1 = nI q - nI 1 := fun e => h8 ((pm_eq (by omega) hq).mp e)
        rw [if_neg h8] at h7
        rw [if_neg g8, if_neg g8]
        exact ⟨h7.1, e1.2, h7.2⟩
theorem m_in (hR : RowOk R) (h : RowM R mN) {q : Nat} (hq : q < 2 ^ 31) : f_X7_inParcel (nI q - nI 1) mN = nI (inN R q (R 1)) ∧ k_X7_inParcel (nI q - nI 1) mN := by
  have h3 := hR.1.2.2.1
  obtain ⟨h1, h2⟩ := m_inL hR h hq FU 0 (by have := FU_big (n := R 1) (by omega); omega) (by omega)
  rw [f_X7_inParcel, k_X7_inParcel]
  exact ⟨congrArg Prod.fst h1, h2, trivial⟩
end PLAN
