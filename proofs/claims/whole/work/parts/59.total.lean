/-! PURE, 10: totals, both sides step by step -/
section TOTAL
variable {R : Nat → Nat} {bA bB bZ bG bP bQ rK rL rG pS : Nat → Int32} {bC bM : Int32} {mN : Nat → Int32}
theorem totalL (hR : RowOk R) (h : BookC R bA bB bZ bG bP bQ bC bM) (hp : PricesC R rK rL rG) (hl : PlanOf R pS) (hm : RowM R mN) (x1 : Int32) : ∀ (n q : Nat) (v2 : Int32), 8 < q + n → q ≤ 8 →
    (f_X7_total_L20 x1 mN n v2 (nI q)).1 = f_X6_total_L15 x1 rK rL rG pS bA bB bZ bP bQ n v2 (nI q) ∧ k_X6_total_L15 x1 rK rL rG pS bA bB bZ bP bQ n v2 (nI q) ∧ k_X7_total_L20 x1 mN n v2 (nI q) := by
  intro n
  induction n with
  | zero => intro q v2 h1 h2; omega
  | succ n ih =>
    intro q v2 h1 h2
    rw [f_X7_total_L20, f_X6_total_L15, k_X6_total_L15, k_X7_total_L20, lit 8]
    by_cases h5 : q = 8
    · have g5 : nI 8 ≤ nI q := nI_le (by omega) (by omega)
      simp only [if_pos g5]
      exact ⟨trivial, trivial, trivial⟩
    · have hq : q < 8 := by omega
      have g5 : ¬ nI 8 ≤ nI q := nI_ge hq (by omega)
      obtain ⟨a1, a2⟩ := c_parc hR h hp hl (b := 1) hq (by omega)
      obtain ⟨b1, b2⟩ := c_parc hR h hp hl (b := 0) hq (by omega)
      obtain ⟨d1, d2⟩ := m_parc hR hm (b := 1) hq (by omega)
      obtain ⟨e1, e2⟩ := m_parc hR hm (b := 0) hq (by omega)
      simp only [if_neg g5, lit 0, lit 1]
      simp only [a1, b1, d1, e1, nI_add]
      by_cases c1 : x1 = nI 1
      · simp only [if_pos c1]
        by_cases c2 : nI 0 ≤ parcI R q 1
        · simp only [if_pos c2]
          obtain ⟨r1, r2, r3⟩ := ih (q + 1) (v2 + parcI R q 1) (by omega) (by omega)
          exact ⟨r1, ⟨a2, r2⟩, d2, d2, r3⟩
        · simp only [if_neg c2]
          exact ⟨trivial, ⟨a2, trivial⟩, d2, trivial⟩
      · simp only [if_neg c1]
        by_cases c2 : nI 0 ≤ parcI R q 0
        · simp only [if_pos c2]
          obtain ⟨r1, r2, r3⟩ := ih (q + 1) (v2 + parcI R q 0) (by omega) (by omega)
          exact ⟨r1, ⟨b2, r2⟩, e2, e2, r3⟩
        · simp only [if_neg c2]
          exact ⟨trivial, ⟨b2, trivial⟩, e2, trivial⟩
theorem t_total (hR : RowOk R) (h : BookC R bA bB bZ bG bP bQ bC bM) (hp : PricesC R rK rL rG) (hl : PlanOf R pS) (hm : RowM R mN) (x1 : Int32) :
    f_X6_total x1 rK rL rG pS bA bB bZ bP bQ = (f_X7_total x1 mN).1 ∧ k_X6_total x1 rK rL rG pS bA bB bZ bP bQ ∧ k_X7_total x1 mN := by
  obtain ⟨r1, r2, r3⟩ := totalL hR h hp hl hm x1 FU 0 (nI 0) (by have := FU_big (n := 8) (by omega); omega) (by omega)
  rw [f_X6_total, f_X7_total, k_X6_total, k_X7_total, f_X7_isIn]
  by_cases c1 : x1 < 0
  · simp only [if_pos c1, if_true]
    exact ⟨trivial, trivial, trivial⟩
  · simp only [if_neg c1]
    by_cases c2 : x1 ≤ 1
    · have c3 : ¬ (1 : Int32) < x1 := Int32.not_lt.mpr c2
      have c4 : ¬ (1 : Int32) = 0 := by decide
      simp only [if_pos c2, if_neg c3, if_neg c4]
      exact ⟨r1.symm, r2, r3⟩
    · have c3 : (1 : Int32) < x1 := Int32.not_le.mp c2
      simp only [if_neg c2, if_pos c3, if_true]
      exact ⟨trivial, trivial, trivial⟩
/-- a parcel's answers -/
theorem isParcel_of (x1 : Int32) : (f_X6_isParcel x1 = 0 ∧ f_X7_isParcel x1 = 0) ∨ (∃ q : Nat, q < 8 ∧ x1 = nI q ∧ f_X6_isParcel x1 = 1 ∧ f_X7_isParcel x1 = 1) := by
  rw [f_X6_isParcel, f_X7_isParcel, f_X7_isIn]
  by_cases c1 : x1 < 0
  · simp only [if_pos c1]; exact Or.inl ⟨trivial, trivial⟩
  · simp only [if_neg c1]
    by_cases c2 : 8 ≤ x1
    · have c3 : (7 : Int32) < x1 := by
        rw [Int32.lt_iff_toInt_lt]
        rw [Int32.le_iff_toInt_le] at c2
        have e1 : (7 : Int32).toInt = 7 := rfl
        have e2 : (8 : Int32).toInt = 8 := rfl
        omega
      simp only [if_pos c2, if_pos c3]; exact Or.inl ⟨trivial, trivial⟩
    · have c3 : ¬ (7 : Int32) < x1 := by
        rw [Int32.lt_iff_toInt_lt]
        rw [Int32.le_iff_toInt_le] at c2
        have e1 : (7 : Int32).toInt = 7 := rfl
        have e2 : (8 : Int32).toInt = 8 := rfl
        omega
      simp only [if_neg c2, if_neg c3]
      obtain ⟨q, hq, e⟩ := vp_in_of (in_of (n := 8) c1 c2 (by omega)) (by omega)
      exact Or.inr ⟨q, hq, e, trivial, trivial⟩
end TOTAL
