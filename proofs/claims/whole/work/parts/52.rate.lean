/-! PURE, 3: rates -/
def M1 : Int32 := -1
def M2 : Int32 := -2
def M3 : Int32 := -3
def M4 : Int32 := -4
def M5 : Int32 := -5
theorem neg1 : (-1 : Int32) = M1 := rfl
theorem neg2 : (-2 : Int32) = M2 := rfl
theorem neg3 : (-3 : Int32) = M3 := rfl
theorem neg4 : (-4 : Int32) = M4 := rfl
theorem neg5 : (-5 : Int32) = M5 := rfl
theorem M1_neg : M1 < nI 0 := by decide +kernel
theorem M2_neg : M2 < nI 0 := by decide +kernel
theorem M3_neg : M3 < nI 0 := by decide +kernel
theorem M4_neg : M4 < nI 0 := by decide +kernel
theorem M5_neg : M5 < nI 0 := by decide +kernel
def oI (d : Int32) : Option Nat → Int32
  | none => d
  | some n => nI n
theorem nI_ne_neg {n : Nat} {d : Int32} (hd : d < 0) (h : n < 2 ^ 31) : ¬ nI n = d := by
  intro e; rw [← e] at hd; exact nI_pos h hd
def rateR (R : Nat → Nat) (c z b : Nat) : Nat → Option Nat
  | 0 => none
  | k + 1 => if R (11 + 43 * c + 4 * k) < b then rateR R c z b k else match rateR R c z b k with
    | none => some (R (12 + 43 * c + 4 * k + z))
    | some q => if q ≤ R (12 + 43 * c + 4 * k + z) then some q else some (R (12 + 43 * c + 4 * k + z))
def rateN (R : Nat → Nat) (c z b : Nat) : Option Nat := if z = 3 then none else rateR R c z b (R (10 + 43 * c))
theorem rateR_le {R : Nat → Nat} (hR : RowOk R) {c z b : Nat} (hc : c < R 0) (hz : z < 3) : ∀ k : Nat, k ≤ R (10 + 43 * c) → ∀ q : Nat, rateR R c z b k = some q → q ≤ 999 := by
  intro k
  induction k with
  | zero => intro _ q h; cases h
  | succ k ih =>
    intro h q
    have h1 := (hR.2.2.1 c k hc (by omega)).2 z hz
    rw [rateR]
    split
    · exact ih (by omega) q
    · split
      · intro e; cases e; exact h1
      · rename_i q' e'
        split
        · intro e; cases e; exact ih (by omega) _ e'
        · intro e; cases e; exact h1
section RATE
variable {R : Nat → Nat} {bA bB bZ bG bP bQ : Nat → Int32} {bC bM : Int32} {mN : Nat → Int32}
theorem c_priceL (hR : RowOk R) (h : BookC R bA bB bZ bG bP bQ bC bM) {c z b : Nat} (hc : c < R 0) (hz : z < 3) (hb : b < 2 ^ 31) : ∀ (n k : Nat), R (10 + 43 * c) < k + n → k ≤ R (10 + 43 * c) →
    f_X2_priceOf_L14 (nI c) (nI z) (nI b) bB bP n (oI M1 (rateR R c z b k)) (nI k) = (oI M1 (rateR R c z b (R (10 + 43 * c))), nI (R (10 + 43 * c))) ∧ k_X2_priceOf_L14 (nI c) (nI z) (nI b) bB bP n (oI M1 (rateR R c z b k)) (nI k) := by
  have h4 := (hR.2.1 c hc).2.2.2.2.2.2.1.2
  intro n
  induction n with
  | zero => intro k h1 h2; omega
  | succ n ih =>
    intro k h1 h2
    rw [f_X2_priceOf_L14, k_X2_priceOf_L14, b_breakCount hR h hc]
    by_cases h5 : k = R (10 + 43 * c)
    · rw [if_pos (nI_le (by omega) (by omega)), if_pos (nI_le (by omega) (by omega)), h5]
      exact ⟨rfl, trivial⟩
    · have hk : k < R (10 + 43 * c) := by omega
      have h6 := (hR.2.2.1 c k hc hk)
      have h9 := h6.2 z hz
      rw [if_neg (nI_ge hk (by omega)), if_neg (nI_ge hk (by omega)), lit 0, lit 1]
      simp only [nI_add]
      rw [b_breakNumber hR h hc hk (by omega), b_breakNumber hR h hc hk (by omega), Nat.add_zero, show 11 + 43 * c + 4 * k + (1 + z) = 12 + 43 * c + 4 * k + z by omega]
      have h7 := ih (k + 1) (by omega) (by omega)
      rw [rateR] at h7
      by_cases h8 : R (11 + 43 * c + 4 * k) < b
      · rw [if_pos h8] at h7
        rw [if_pos (nI_lt h8 hb), if_pos (nI_lt h8 hb)]
        exact h7
      · rw [if_neg h8] at h7
        rw [if_neg (nI_nlt (by omega) (by omega)), if_neg (nI_nlt (by omega) (by omega))]
        cases hq : rateR R c z b k with
        | none =>
          rw [hq] at h7
          rw [show oI M1 none = M1 from rfl, if_pos M1_neg, if_pos M1_neg]
          exact h7
        | some q =>
          have hq9 := rateR_le hR hc hz k (by omega) q hq
          rw [hq] at h7
          rw [show oI M1 (some q) = nI q from rfl, if_neg (nI_nlt (a := q) (b := 0) (by omega) (by omega)), if_neg (nI_nlt (a := q) (b := 0) (by omega) (by omega))]
          simp only [] at h7
          by_cases h10 : q ≤ R (12 + 43 * c + 4 * k + z)
          · rw [if_pos h10] at h7
            rw [if_pos (nI_le h10 (by omega)), if_pos (nI_le h10 (by omega))]
            exact h7
          · rw [if_neg h10] at h7
            rw [if_neg (nI_ge (by omega) (by omega)), if_neg (nI_ge (by omega) (by omega))]
            exact h7
theorem c_price (hR : RowOk R) (h : BookC R bA bB bZ bG bP bQ bC bM) {c z b : Nat} (hc : c < R 0) (hz : z ≤ 3) (hb : b < 2 ^ 31) : f_X2_priceOf (nI c) (nI z) (nI b) bB bP = oI M1 (rateN R c z b) ∧ k_X2_priceOf (nI c) (nI z) (nI b) bB bP := by
  have h4 := (hR.2.1 c hc).2.2.2.2.2.2.1.2
  rw [f_X2_priceOf, k_X2_priceOf, rateN, neg1, lit 3]
  by_cases h3 : z = 3
  · subst h3
    rw [if_pos rfl, if_pos rfl, if_pos rfl]
    exact ⟨rfl, trivial⟩
  · have h5 : ¬ nI z = nI 3 := fun e => h3 ((nI_eq (a := z) (b := 3) (by omega) (by omega)).mp e)
    rw [if_neg h5, if_neg h5, if_neg h3]
    obtain ⟨h1, h2⟩ := c_priceL hR h hc (z := z) (by omega) hb FU 0 (by have := FU_big (n := R (10 + 43 * c)) (by omega); omega) (by omega)
    exact ⟨congrArg Prod.fst h1, h2, trivial⟩
theorem m_rateL (hR : RowOk R) (h : RowM R mN) {c z b : Nat} (hc : c < R 0) (hz : z < 3) (hzz : zoneN R c (R 2) (R 3) = z) (hb : b < 2 ^ 31) : ∀ (n k : Nat), R (10 + 43 * c) < k + n → k ≤ R (10 + 43 * c) →
    f_X7_rateOf_L13 (nI c) (nI b) mN n (oI M2 (rateR R c z b k)) (nI k) = (oI M2 (rateR R c z b (R (10 + 43 * c))), nI (R (10 + 43 * c))) ∧ k_X7_rateOf_L13 (nI c) (nI b) mN n (oI M2 (rateR R c z b k)) (nI k) := by
  have h3 := hR.1
  have h4 := (hR.2.1 c hc).2.2.2.2.2.2.1.2
  have hzo := (m_zone hR h hc).1
  rw [hzz] at hzo
  intro n
  induction n with
  | zero => intro k h1 h2; omega
  | succ n ih =>
    intro k h1 h2
    have e1 := m_its h (c := c) (w := 6) (by omega)
    rw [show 4 + 43 * c + 6 = 10 + 43 * c by omega] at e1
    rw [f_X7_rateOf_L13, k_X7_rateOf_L13, lit 6, e1.1, hzo, lit 3, neg2]
    by_cases h5 : k = R (10 + 43 * c)
    · rw [if_pos (nI_le (by omega) (by omega)), if_pos (nI_le (by omega) (by omega)), h5]
      exact ⟨rfl, e1.2, trivial⟩
    · have hk : k < R (10 + 43 * c) := by omega
      have h6 := (hR.2.2.1 c k hc hk)
      have h9 := h6.2 z hz
      have e2 := m_its h (c := c) (w := 7 + 4 * k) (by omega)
      have e3 := m_its h (c := c) (w := 7 + 4 * k + 1 + z) (by omega)
      rw [show 4 + 43 * c + (7 + 4 * k) = 11 + 43 * c + 4 * k by omega] at e2
      rw [show 4 + 43 * c + (7 + 4 * k + 1 + z) = 12 + 43 * c + 4 * k + z by omega] at e3
      rw [if_neg (nI_ge hk (by omega)), if_neg (nI_ge hk (by omega)), if_neg (nI_ge (a := z) (b := 3) hz (by omega)), if_neg (nI_ge (a := z) (b := 3) hz (by omega)), lit 7, lit 4, lit 1]
      simp only [nI_mul, nI_add]
      rw [e2.1, e3.1]
      have h7 := ih (k + 1) (by omega) (by omega)
      rw [rateR] at h7
      by_cases h8 : R (11 + 43 * c + 4 * k) < b
      · rw [if_pos h8] at h7
        rw [if_pos (nI_lt h8 hb), if_pos (nI_lt h8 hb)]
        exact ⟨h7.1, e1.2, e3.2, e2.2, h7.2⟩
      · rw [if_neg h8] at h7
        rw [if_neg (nI_nlt (by omega) (by omega)), if_neg (nI_nlt (by omega) (by omega))]
        cases hq : rateR R c z b k with
        | none =>
          rw [hq] at h7
          rw [show oI M2 none = M2 from rfl, if_pos rfl, if_pos rfl]
          exact ⟨h7.1, e1.2, e3.2, e2.2, h7.2⟩
        | some q =>
          have hq9 := rateR_le hR hc hz k (by omega) q hq
          rw [hq] at h7
          rw [show oI M2 (some q) = nI q from rfl, if_neg (nI_ne_neg M2_neg (by omega)), if_neg (nI_ne_neg M2_neg (by omega))]
          simp only [] at h7
          by_cases h10 : q ≤ R (12 + 43 * c + 4 * k + z)
          · rw [if_pos h10] at h7
            rw [if_pos (nI_le h10 (by omega)), if_pos (nI_le h10 (by omega))]
            exact ⟨h7.1, e1.2, e3.2, e2.2, h7.2⟩
          · rw [if_neg h10] at h7
            rw [if_neg (nI_ge (by omega) (by omega)), if_neg (nI_ge (by omega) (by omega))]
            exact ⟨h7.1, e1.2, e3.2, e2.2, h7.2⟩
theorem m_rate (hR : RowOk R) (h : RowM R mN) {c b : Nat} (hc : c < R 0) (hb : b < 2 ^ 31) : f_X7_rateOf (nI c) (nI b) mN = oI M2 (rateN R c (zoneN R c (R 2) (R 3)) b) ∧ k_X7_rateOf (nI c) (nI b) mN := by
  have h4 := (hR.2.1 c hc).2.2.2.2.2.2.1
  have h3 := hR.1
  have hz := m_zone hR h hc
  have hz9 : zoneN R c (R 2) (R 3) ≤ 3 := zoneR_le hR hc (by omega) _ (Nat.le_refl _)
  rw [f_X7_rateOf, k_X7_rateOf, rateN, neg2]
  by_cases h3 : zoneN R c (R 2) (R 3) = 3
  · rw [if_pos h3]
    have e1 := m_its h (c := c) (w := 6) (by omega)
    rw [show 4 + 43 * c + 6 = 10 + 43 * c by omega] at e1
    obtain ⟨n, hn⟩ : ∃ n, FU = n + 1 := ⟨4095, FU_eq⟩
    rw [hn, f_X7_rateOf_L13, k_X7_rateOf_L13, lit 6, e1.1, hz.1, h3, lit 3, lit 0, if_neg (nI_ge (a := 0) (by omega) (by omega)), if_neg (nI_ge (a := 0) (by omega) (by omega)), if_pos (nI_le (a := 3) (b := 3) (by omega) (by omega)), if_pos (nI_le (a := 3) (b := 3) (by omega) (by omega))]
    exact ⟨rfl, hz.2, ⟨e1.2, trivial⟩, trivial⟩
  · rw [if_neg h3]
    obtain ⟨h1, h2⟩ := m_rateL hR h hc (z := zoneN R c (R 2) (R 3)) (by omega) rfl hb FU 0 (by have := FU_big (n := R (10 + 43 * c)) (by omega); omega) (by omega)
    exact ⟨congrArg Prod.fst h1, hz.2, h2, trivial⟩
end RATE
