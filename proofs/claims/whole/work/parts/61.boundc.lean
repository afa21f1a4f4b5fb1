/-! PURE, 12: the class's bound of one carrier -/
def bndR (R : Nat → Nat) (c z W : Nat) : Nat → Option Nat
  | 0 => none
  | k + 1 => minO (bndR R c z W k) (ceilD W (R (12 + 43 * c + 4 * k + z)) (R (11 + 43 * c + 4 * k)))
theorem ceilD_le {W q u : Nat} (hW : W ≤ 792) (hq : q ≤ 999) (hu : u ≤ 99) : W * q ≤ 791208 ∧ ceilD W q u ≤ 791307 := by
  have h1 : W * q ≤ 792 * 999 := Nat.mul_le_mul hW hq
  refine ⟨by omega, ?_⟩
  rw [ceilD]
  have h2 : (W * q + u - 1) / u ≤ W * q + u - 1 := Nat.div_le_self _ _
  omega
theorem bndR_le {R : Nat → Nat} (hR : RowOk R) {c z W : Nat} (hc : c < R 0) (hz : z < 3) (hW : W ≤ 792) : ∀ k : Nat, k ≤ R (10 + 43 * c) → ∀ n : Nat, bndR R c z W k = some n → n ≤ 791307 := by
  intro k
  induction k with
  | zero => intro _ n h; cases h
  | succ k ih =>
    intro hk n
    have h1 := hR.2.2.1 c k hc (by omega)
    have h2 := (ceilD_le hW (h1.2 z hz) h1.1.2).2
    rw [bndR]
    cases ho : bndR R c z W k with
    | none => intro h; cases h; exact h2
    | some m =>
      rw [minO_some]
      intro h; cases h
      exact Nat.le_trans (Nat.min_le_right _ _) h2
section BOUNDC
variable {R : Nat → Nat} {bA bB bZ bG bP bQ rK rL rG pS : Nat → Int32} {bC bM : Int32} {mN : Nat → Int32}
theorem c_ceil {W q u : Nat} (hW : W ≤ 792) (hq : q ≤ 999) (hu : 1 ≤ u) (hu9 : u ≤ 99) : f_X2_divideUp (nI W * nI q) (nI u) = nI (ceilD W q u) ∧ k_X2_divideUp (nI u) := by
  have h1 := (ceilD_le hW hq hu9).1
  have g1 : nI 1 ≤ nI u := nI_le hu (by omega)
  rw [f_X2_divideUp, k_X2_divideUp, lit 1, if_pos g1, if_pos g1, nI_mul, nI_add, nI_sub (by omega), nI_div (by omega) (by omega)]
  exact ⟨rfl, nI_ne0 (by omega) (by omega), trivial⟩
theorem c_bndL (hR : RowOk R) (h : BookC R bA bB bZ bG bP bQ bC bM) {c z W : Nat} (hc : c < R 0) (hz : z < 3) (hW : W ≤ 792) : ∀ (n k : Nat), R (10 + 43 * c) < k + n → k ≤ R (10 + 43 * c) →
    f_X2_boundBy_L6 (nI c) (nI z) (nI W) bB bP n (oI M1 (bndR R c z W k)) (nI k) = (oI M1 (bndR R c z W (R (10 + 43 * c))), nI (R (10 + 43 * c))) ∧ k_X2_boundBy_L6 (nI c) (nI z) (nI W) bB bP n (oI M1 (bndR R c z W k)) (nI k) := by
  have h4 := (hR.2.1 c hc).2.2.2.2.2.2.1.2
  intro n
  induction n with
  | zero => intro k h1 h2; omega
  | succ n ih =>
    intro k h1 h2
    rw [f_X2_boundBy_L6, k_X2_boundBy_L6, b_breakCount hR h hc]
    by_cases h5 : k = R (10 + 43 * c)
    · have g5 : nI (R (10 + 43 * c)) ≤ nI k := nI_le (by omega) (by omega)
      rw [if_pos g5, if_pos g5, h5]
      exact ⟨rfl, trivial⟩
    · have hk : k < R (10 + 43 * c) := by omega
      have g5 : ¬ nI (R (10 + 43 * c)) ≤ nI k := nI_ge hk (by omega)
      have h6 := (hR.2.2.1 c k hc hk)
      obtain ⟨d1, d2⟩ := c_ceil hW (h6.2 z hz) h6.1.1 h6.1.2
      have d3 := (ceilD_le hW (h6.2 z hz) h6.1.2).2
      rw [if_neg g5, if_neg g5, lit 0, lit 1, nI_add 1 z, nI_add k 1, b_breakNumber hR h hc hk (by omega), b_breakNumber hR h hc hk (by omega), Nat.add_zero, show 11 + 43 * c + 4 * k + (1 + z) = 12 + 43 * c + 4 * k + z by omega, d1]
      have h7 := ih (k + 1) (by omega) (by omega)
      rw [bndR] at h7
      generalize ceilD W (R (12 + 43 * c + 4 * k + z)) (R (11 + 43 * c + 4 * k)) = t at h7 d1 d3 ⊢
      cases hq : bndR R c z W k with
      | none =>
        rw [hq] at h7
        rw [show oI M1 none = M1 from rfl, if_pos M1_neg, if_pos M1_neg]
        exact ⟨h7.1, d2, h7.2⟩
      | some m =>
        have hm := bndR_le hR hc hz hW k (by omega) m hq
        have g7 : ¬ nI m < nI 0 := nI_nlt (by omega) (by omega)
        rw [hq, minO] at h7
        rw [show oI M1 (some m) = nI m from rfl, if_neg g7, if_neg g7]
        by_cases h10 : m ≤ t
        · have g8 : nI m ≤ nI t := nI_le h10 (by omega)
          rw [if_pos h10] at h7
          rw [if_pos g8, if_pos g8]
          exact ⟨h7.1, d2, h7.2⟩
        · have g8 : ¬ nI m ≤ nI t := nI_ge (by omega) (by omega)
          rw [if_neg h10] at h7
          rw [if_neg g8, if_neg g8]
          exact ⟨h7.1, d2, h7.2⟩
end BOUNDC
