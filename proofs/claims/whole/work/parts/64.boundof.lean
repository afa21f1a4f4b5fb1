/-! PURE, 15: the model's bound, and both alike -/
def ovI : Option (Nat × Nat) → Int32
  | none => M2
  | some (a, _) => nI a
def unI : Option (Nat × Nat) → Int32
  | none => nI 1
  | some (_, b) => nI b
section BOUNDOF
variable {R : Nat → Nat} {bA bB bZ bG bP bQ rK rL rG pS : Nat → Int32} {bC bM : Int32} {mN : Nat → Int32}
theorem m_frcL (hR : RowOk R) (h : RowM R mN) {c z : Nat} {o : Option (Nat × Nat)} (hc : c < R 0) (hz : z < 3) (ho : posO o) : ∀ (n k : Nat), R (10 + 43 * c) < k + n → k ≤ R (10 + 43 * c) →
    f_X7_boundOf_L27 mN n (ovI (frcR R c z o k)) (unI (frcR R c z o k)) (nI c) (nI z) (nI k) = (ovI (frcR R c z o (R (10 + 43 * c))), unI (frcR R c z o (R (10 + 43 * c))), nI c, nI z, nI (R (10 + 43 * c))) ∧ k_X7_boundOf_L27 mN n (ovI (frcR R c z o k)) (unI (frcR R c z o k)) (nI c) (nI z) (nI k) := by
  have h3 := hR.1
  have h4 := (hR.2.1 c hc).2.2.2.2.2.2.1.2
  intro n
  induction n with
  | zero => intro k h1 h2; omega
  | succ n ih =>
    intro k h1 h2
    have e1 := m_its h (c := c) (w := 6) (by omega)
    rw [show 4 + 43 * c + 6 = 10 + 43 * c by omega] at e1
    rw [f_X7_boundOf_L27, k_X7_boundOf_L27, lit 6, e1.1, lit 3, neg2]
    by_cases h5 : k = R (10 + 43 * c)
    · have g5 : nI (R (10 + 43 * c)) ≤ nI k := nI_le (by omega) (by omega)
      rw [if_pos g5, if_pos g5, h5]
      exact ⟨rfl, e1.2, trivial⟩
    · have hk : k < R (10 + 43 * c) := by omega
      have g5 : ¬ nI (R (10 + 43 * c)) ≤ nI k := nI_ge hk (by omega)
      have gz : ¬ nI 3 ≤ nI z := nI_ge hz (by omega)
      have h6 := (hR.2.2.1 c k hc hk)
      have h9 := h6.2 z hz
      have e2 := m_its h (c := c) (w := 7 + 4 * k) (by omega)
      have e3 := m_its h (c := c) (w := 7 + 4 * k + 1 + z) (by omega)
      rw [show 4 + 43 * c + (7 + 4 * k) = 11 + 43 * c + 4 * k by omega] at e2
      rw [show 4 + 43 * c + (7 + 4 * k + 1 + z) = 12 + 43 * c + 4 * k + z by omega] at e3
      rw [if_neg g5, if_neg g5, if_neg gz, if_neg gz, lit 7, lit 4, lit 1]
      simp only [nI_mul 4, nI_add]
      rw [e2.1, e3.1]
      have h7 := ih (k + 1) (by omega) (by omega)
      have hp := frcR_pos hR hc hz ho k (by omega)
      rw [frcR] at h7
      cases hq : frcR R c z o k with
      | none =>
        rw [hq] at h7
        rw [show ovI none = M2 from rfl, if_pos rfl, if_pos rfl]
        exact ⟨h7.1, e1.2, e3.2, e2.2, h7.2⟩
      | some ab =>
        obtain ⟨a, b⟩ := ab
        rw [hq] at h7 hp
        have hp1 : a ≤ 999 := hp.1
        have hp2 : b ≤ 99 := hp.2.2
        have m1 : R (12 + 43 * c + 4 * k + z) * b ≤ 999 * 99 := Nat.mul_le_mul h9 hp2
        have m2 : a * R (11 + 43 * c + 4 * k) ≤ 999 * 99 := Nat.mul_le_mul hp1 h6.1.2
        have g6 : ¬ nI a = M2 := nI_ne_neg M2_neg (by omega)
        rw [fracO] at h7
        rw [show ovI (some (a, b)) = nI a from rfl, show unI (some (a, b)) = nI b from rfl, if_neg g6, if_neg g6, nI_mul, nI_mul]
        by_cases h10 : R (12 + 43 * c + 4 * k + z) * b < a * R (11 + 43 * c + 4 * k)
        · have g8 : nI (R (12 + 43 * c + 4 * k + z) * b) < nI (a * R (11 + 43 * c + 4 * k)) := nI_lt h10 (by omega)
          rw [if_pos h10] at h7
          rw [if_pos g8, if_pos g8]
          exact ⟨h7.1, e1.2, e3.2, e2.2, h7.2⟩
        · have g8 : ¬ nI (R (12 + 43 * c + 4 * k + z) * b) < nI (a * R (11 + 43 * c + 4 * k)) := nI_nlt (by omega) (by omega)
          rw [if_neg h10] at h7
          rw [if_neg g8, if_neg g8]
          exact ⟨h7.1, e1.2, e3.2, e2.2, h7.2⟩
theorem m_frc3 (hR : RowOk R) (h : RowM R mN) {c : Nat} {v1 v2 : Int32} (hc : c < R 0) : f_X7_boundOf_L27 mN FU v1 v2 (nI c) (nI 3) (nI 0) = (v1, v2, nI c, nI 3, nI 0) ∧ k_X7_boundOf_L27 mN FU v1 v2 (nI c) (nI 3) (nI 0) := by
  have h3 := hR.1
  have h4 := (hR.2.1 c hc).2.2.2.2.2.2.1
  have e1 := m_its h (c := c) (w := 6) (by omega)
  rw [show 4 + 43 * c + 6 = 10 + 43 * c by omega] at e1
  obtain ⟨n, hn⟩ : ∃ n, FU = n + 1 := ⟨4095, FU_eq⟩
  have g5 : ¬ nI (R (10 + 43 * c)) ≤ nI 0 := nI_ge (by omega) (by omega)
  have g3 : nI 3 ≤ nI 3 := nI_le (by omega) (by omega)
  rw [hn, f_X7_boundOf_L27, k_X7_boundOf_L27, lit 6, e1.1, lit 3, if_neg g5, if_neg g5, if_pos g3, if_pos g3]
  exact ⟨rfl, e1.2, trivial⟩
theorem m_bndL (hR : RowOk R) (h : RowM R mN) : ∀ (n c : Nat), R 0 < c + n → c ≤ R 0 →
    f_X7_boundOf_L7 mN n (ovI (frcN R c)) (unI (frcN R c)) (nI c) = (ovI (frcN R (R 0)), unI (frcN R (R 0)), nI (R 0)) ∧ k_X7_boundOf_L7 mN n (ovI (frcN R c)) (unI (frcN R c)) (nI c) := by
  have h0 := hR.1
  intro n
  induction n with
  | zero => intro k h1 h2; omega
  | succ n ih =>
    intro c h1 h2
    rw [f_X7_boundOf_L7, k_X7_boundOf_L7, lit 0, lit 1, m_at h (i := 0) (by omega)]
    by_cases h5 : c = R 0
    · have g5 : nI (R 0) ≤ nI c := nI_le (by omega) (by omega)
      rw [if_pos g5, if_pos g5, h5]
      exact ⟨rfl, trivial⟩
    · have hc : c < R 0 := by omega
      have g5 : ¬ nI (R 0) ≤ nI c := nI_ge hc (by omega)
      have hz := zoneN_le hR (c := c) (pl := R 2) (dy := R 3) (by omega) (by omega)
      have h4 := (hR.2.1 c hc).2.2.2.2.2.2.1.2
      obtain ⟨z1, z2⟩ := m_zone hR h hc
      have h7 := ih (c + 1) (by omega) (by omega)
      rw [frcN] at h7
      rw [if_neg g5, if_neg g5, z1]
      by_cases h3 : zoneN R c (R 2) (R 3) = 3
      · obtain ⟨l1, l2⟩ := m_frc3 hR h (v1 := ovI (frcN R c)) (v2 := unI (frcN R c)) hc
        rw [if_pos h3] at h7
        rw [h3, l1, nI_add]
        exact ⟨h7.1, z2, l2, h7.2⟩
      · obtain ⟨l1, l2⟩ := m_frcL hR h (o := frcN R c) (z := zoneN R c (R 2) (R 3)) hc (by omega) (frcN_min hR (W := 0) c (by omega)).1 FU 0 (by have := FU_big (n := R (10 + 43 * c)) (by omega); omega) (by omega)
        rw [frcR] at l1 l2
        rw [if_neg h3] at h7
        rw [l1, nI_add]
        exact ⟨h7.1, z2, l2, h7.2⟩
def boundN (R : Nat → Nat) : Option Nat := lowR R (sumS R 0 (2 ^ R 1 - 1)) (R 0)
theorem c_low (hR : RowOk R) (h : BookC R bA bB bZ bG bP bQ bC bM) (hp : PricesC R rK rL rG) (hl : PlanOf R pS) : f_X6_lowerBound rK pS bB bZ bP bQ bC bM = oI M2 (boundN R) ∧ k_X6_lowerBound rK pS bB bZ bP bQ bC bM := by
  have h0 := hR.1
  obtain ⟨h1, h2⟩ := c_lowL hR h hp hl rfl FU 0 (by have := FU_big (n := R 0) (by omega); omega) (by omega)
  rw [f_X6_lowerBound, k_X6_lowerBound, neg2]
  exact ⟨congrArg Prod.fst h1, h2, trivial⟩
theorem m_bound (hR : RowOk R) (h : RowM R mN) : f_X7_boundOf mN = oI M2 (boundN R) ∧ k_X7_boundOf mN := by
  have h0 := hR.1
  have u2 : 2 ^ R 1 ≤ 2 ^ 8 := Nat.pow_le_pow_right (by omega) h0.2.2.1
  have u3 : 1 ≤ 2 ^ R 1 := Nat.one_le_two_pow
  obtain ⟨l1, l2⟩ := m_bndL hR h FU 0 (by have := FU_big (n := R 0) (by omega); omega) (by omega)
  rw [frcN, show ovI none = M2 from rfl, show unI none = nI 1 from rfl] at l1 l2
  obtain ⟨p1, p2⟩ := frcN_min hR (W := sumS R 0 (2 ^ R 1 - 1)) (R 0) (Nat.le_refl _)
  obtain ⟨s1, s2⟩ := m_sum hR h (S := 2 ^ R 1 - 1) (w := 0) (by omega) (by omega)
  have hW := sumS_le0 hR (S := 2 ^ R 1 - 1)
  rw [f_X7_boundOf, k_X7_boundOf, neg2, lit 0, lit 1, l1, lit 31, m_at h (i := 1) (by omega), nI_and, and31 (by omega), nI_shl (by omega), Nat.one_shiftLeft, nI_sub u3, s1, boundN, ← p2]
  generalize frcN R (R 0) = o at p1 ⊢
  cases o with
  | none =>
    rw [show ovI none = M2 from rfl]
    simp only [if_true]
    exact ⟨rfl, l2, trivial⟩
  | some ab =>
    obtain ⟨a, b⟩ := ab
    have q1 : a ≤ 999 := p1.1
    have q2 : 1 ≤ b := p1.2.1
    have q3 : b ≤ 99 := p1.2.2
    have g6 : ¬ nI a = M2 := nI_ne_neg M2_neg (by omega)
    have c1 := (ceilD_le hW q1 q3).1
    rw [show ovI (some (a, b)) = nI a from rfl, show unI (some (a, b)) = nI b from rfl, if_neg g6, if_neg g6, nI_mul, nI_add, nI_sub (by omega), nI_div (by omega) (by omega)]
    exact ⟨rfl, l2, s2, fun e => absurd ((nI_eq (a := b) (b := 0) (by omega) (by omega)).mp e) (by omega), trivial⟩
end BOUNDOF
