/-! PURE, 6: the least offer of a set -/
def zIn (Z c : Nat) : Nat := (Z >>> (2 * c)) &&& 3
theorem zIn_le (Z c : Nat) : zIn Z c ≤ 3 := Nat.and_le_right
theorem c_zoneIn {Z c : Nat} (hZ : Z < 2 ^ 31) (hc : c < 8) : f_X2_zoneIn (nI Z) (nI c) = nI (zIn Z c) := by
  rw [f_X2_zoneIn, lit 2, lit 31, lit 3, nI_mul, nI_and, and31 (by omega), nI_shr hZ (by omega), nI_and]; rfl
def offR (R : Nat → Nat) (zs : Nat → Nat) (S : Nat) : Nat → Option Nat
  | 0 => none
  | c + 1 => match chargeO R S c (zs c) (sumS R 0 S) with
    | none => offR R zs S c
    | some n => match offR R zs S c with
      | none => some (n * 3 + c)
      | some o => if o ≤ n * 3 + c then some o else some (n * 3 + c)
theorem offR_le {R zs : Nat → Nat} (hR : RowOk R) {S : Nat} (hz : ∀ c, c < R 0 → zs c ≤ 3) : ∀ c : Nat, c ≤ R 0 → ∀ o : Nat, offR R zs S c = some o → o % 3 < c ∧ o ≤ 53678 := by
  have h0 := hR.1.2.1
  intro c
  induction c with
  | zero => intro _ o h; cases h
  | succ c ih =>
    intro hc o
    rw [offR]
    split
    · intro h; have := ih (by omega) o h; omega
    · rename_i n hn
      have h1 := chargeO_le hR (by omega) (hz c (by omega)) hn
      split
      · intro h; cases h; omega
      · rename_i q hq
        split
        · intro h; cases h; have := ih (by omega) _ hq; omega
        · intro h; cases h; omega
section OFFER
variable {R zs : Nat → Nat} {bA bB bZ bG bP bQ rK rL rG : Nat → Int32} {bC bM : Int32} {mN : Nat → Int32}
theorem c_offerL (hR : RowOk R) (h : BookC R bA bB bZ bG bP bQ bC bM) (hp : PricesC R rK rL rG) {S Z : Nat} (hS : S < 2 ^ R 1) (hZ : Z < 2 ^ 31) : ∀ (n c : Nat), R 0 < c + n → c ≤ R 0 →
    f_X2_leastOffer_L5 (nI S) (nI Z) rK rL rG bA bB bP bC n (oI M1 (offR R (zIn Z) S c)) (nI c) = (oI M1 (offR R (zIn Z) S (R 0)), nI (R 0)) ∧ k_X2_leastOffer_L5 (nI S) (nI Z) rK rL rG bA bB bP bC n (oI M1 (offR R (zIn Z) S c)) (nI c) := by
  have hbC := h.1
  subst hbC
  have h0 := hR.1.2.1
  have h3 := hR.1.2.2.1
  have h4 : 2 ^ R 1 ≤ 2 ^ 8 := Nat.pow_le_pow_right (by omega) h3
  have hk := sumS_le0 hR (S := S)
  intro n
  induction n with
  | zero => intro k h1 h2; omega
  | succ n ih =>
    intro c h1 h2
    rw [f_X2_leastOffer_L5, k_X2_leastOffer_L5, f_X0_carrierCount]
    by_cases h5 : c = R 0
    · have g5 : nI (R 0) ≤ nI c := nI_le (by omega) (by omega)
      rw [if_pos g5, if_pos g5, h5]
      exact ⟨rfl, trivial⟩
    · have hc : c < R 0 := by omega
      have g5 : ¬ nI (R 0) ≤ nI c := nI_ge hc (by omega)
      obtain ⟨e1, e2⟩ := c_charge hR h hp (S := S) (z := zIn Z c) (w := sumS R 0 S) hS hc (zIn_le Z c) (by omega)
      have ek : f_X2_kilosOf (nI S) rK = nI (sumS R 0 S) := by rw [f_X2_kilosOf, at_in (by omega) (by omega), (hp.1 S hS).1]
      have h7 := ih (c + 1) (by omega) (by omega)
      rw [offR] at h7
      rw [if_neg g5, if_neg g5, c_zoneIn hZ (by omega), ek, e1, lit 0, lit 3, lit 1]
      rcases chargeI_o (R := R) (S := S) (c := c) (z := zIn Z c) (w := sumS R 0 S) with ⟨q, o1, o2⟩ | ⟨o1, o2⟩
      · have hq := chargeO_le hR hc (zIn_le Z c) o1
        have g6 : ¬ nI q < nI 0 := nI_nlt (by omega) (by omega)
        rw [o1] at h7
        rw [o2, if_neg g6, if_neg g6]
        simp only [nI_mul, nI_add]
        cases ho : offR R (zIn Z) S c with
        | none =>
          rw [ho] at h7
          rw [show oI M1 none = M1 from rfl, if_pos M1_neg, if_pos M1_neg]
          exact ⟨h7.1, e2, h7.2⟩
        | some o =>
          have ho9 := offR_le hR (zs := zIn Z) (S := S) (fun c _ => zIn_le Z c) c (by omega) o ho
          have g7 : ¬ nI o < nI 0 := nI_nlt (by omega) (by omega)
          rw [ho] at h7
          simp only [] at h7
          rw [show oI M1 (some o) = nI o from rfl, if_neg g7, if_neg g7]
          by_cases h8 : o ≤ q * 3 + c
          · have g8 : nI o ≤ nI (q * 3 + c) := nI_le h8 (by omega)
            rw [if_pos h8] at h7
            rw [if_pos g8, if_pos g8]
            exact ⟨h7.1, e2, h7.2⟩
          · have g8 : ¬ nI o ≤ nI (q * 3 + c) := nI_ge (by omega) (by omega)
            rw [if_neg h8] at h7
            rw [if_neg g8, if_neg g8]
            exact ⟨h7.1, e2, h7.2⟩
      · rw [o1] at h7
        simp only [] at h7
        rw [if_pos o2, if_pos o2, nI_add]
        exact ⟨h7.1, e2, h7.2⟩
theorem c_offer (hR : RowOk R) (h : BookC R bA bB bZ bG bP bQ bC bM) (hp : PricesC R rK rL rG) {S Z : Nat} (hS : S < 2 ^ R 1) (hZ : Z < 2 ^ 31) :
    f_X2_leastOffer (nI S) (nI Z) rK rL rG bA bB bP bC = oI M1 (offR R (zIn Z) S (R 0)) ∧ k_X2_leastOffer (nI S) (nI Z) rK rL rG bA bB bP bC := by
  have h0 := hR.1.2.1
  obtain ⟨h1, h2⟩ := c_offerL hR h hp hS hZ FU 0 (by have := FU_big (n := R 0) (by omega); omega) (by omega)
  rw [f_X2_leastOffer, k_X2_leastOffer, neg1]
  exact ⟨congrArg Prod.fst h1, h2, trivial⟩
/-- the model's two numbers of the least offer so far -/
def offB : Option Nat → Int32
  | none => M2
  | some o => nI (o % 3)
def offL : Option Nat → Int32
  | none => nI 0
  | some o => nI (o / 3)
theorem m_cheapL (hR : RowOk R) (h : RowM R mN) {S : Nat} (hS : S < 2 ^ 31) : ∀ (n c : Nat), R 0 < c + n → c ≤ R 0 →
    f_X7_cheapestOf_L8 (nI S) mN n (offB (offR R (fun c => zoneN R c (R 2) (R 3)) S c)) (offL (offR R (fun c => zoneN R c (R 2) (R 3)) S c)) (nI c) = (offB (offR R (fun c => zoneN R c (R 2) (R 3)) S (R 0)), offL (offR R (fun c => zoneN R c (R 2) (R 3)) S (R 0)), nI (R 0)) ∧ k_X7_cheapestOf_L8 (nI S) mN n (offB (offR R (fun c => zoneN R c (R 2) (R 3)) S c)) (offL (offR R (fun c => zoneN R c (R 2) (R 3)) S c)) (nI c) := by
  have h0 := hR.1
  have hk := sumS_le0 hR (S := S)
  intro n
  induction n with
  | zero => intro k h1 h2; omega
  | succ n ih =>
    intro c h1 h2
    rw [f_X7_cheapestOf_L8, k_X7_cheapestOf_L8, lit 0, m_at h (i := 0) (by omega)]
    by_cases h5 : c = R 0
    · have g5 : nI (R 0) ≤ nI c := nI_le (by omega) (by omega)
      rw [if_pos g5, if_pos g5, h5]
      exact ⟨rfl, trivial⟩
    · have hc : c < R 0 := by omega
      have hz : zoneN R c (R 2) (R 3) ≤ 3 := zoneR_le hR hc (by omega) _ (Nat.le_refl _)
      have g5 : ¬ nI (R 0) ≤ nI c := nI_ge hc (by omega)
      obtain ⟨s1, s2⟩ := m_sum hR h (S := S) (w := 0) hS (by omega)
      obtain ⟨e1, e2⟩ := m_charge hR h (S := S) (c := c) (w := sumS R 0 S) hS hc (by omega)
      have h7 := ih (c + 1) (by omega) (by omega)
      rw [offR] at h7
      rw [if_neg g5, if_neg g5, s1, e1, lit 1, neg2]
      rcases chargeI_o (R := R) (S := S) (c := c) (z := zoneN R c (R 2) (R 3)) (w := sumS R 0 S) with ⟨q, o1, o2⟩ | ⟨o1, o2⟩
      · have hq := chargeO_le hR hc hz o1
        have g6 : ¬ nI q < nI 0 := nI_nlt (by omega) (by omega)
        simp only [o1] at h7
        rw [o2, if_neg g6, if_neg g6, nI_add]
        have r1 : (q * 3 + c) % 3 = c := by omega
        have r2 : (q * 3 + c) / 3 = q := by omega
        cases ho : offR R (fun c => zoneN R c (R 2) (R 3)) S c with
        | none =>
          simp only [ho] at h7
          rw [show offB none = M2 from rfl, if_pos rfl, if_pos rfl]
          rw [show offB (some (q * 3 + c)) = nI c from congrArg nI r1, show offL (some (q * 3 + c)) = nI q from congrArg nI r2] at h7
          exact ⟨h7.1, s2, e2, h7.2⟩
        | some o =>
          have ho9 := offR_le hR (S := S) (fun c hc => zoneR_le hR hc (by omega) _ (Nat.le_refl _)) c (by omega) o ho
          have g7 : ¬ nI (o % 3) = M2 := nI_ne_neg M2_neg (by omega)
          simp only [ho] at h7
          rw [show offB (some o) = nI (o % 3) from rfl, show offL (some o) = nI (o / 3) from rfl, if_neg g7, if_neg g7]
          by_cases h8 : o ≤ q * 3 + c
          · have g8 : ¬ nI q < nI (o / 3) := nI_nlt (by omega) (by omega)
            rw [if_pos h8] at h7
            rw [if_neg g8, if_neg g8]
            exact ⟨h7.1, s2, e2, h7.2⟩
          · have g8 : nI q < nI (o / 3) := nI_lt (by omega) (by omega)
            rw [if_neg h8, show offB (some (q * 3 + c)) = nI c from congrArg nI r1, show offL (some (q * 3 + c)) = nI q from congrArg nI r2] at h7
            rw [if_pos g8, if_pos g8]
            exact ⟨h7.1, s2, e2, h7.2⟩
      · simp only [o1] at h7
        rw [if_pos o2, if_pos o2, nI_add]
        exact ⟨h7.1, s2, e2, h7.2⟩
theorem m_cheap (hR : RowOk R) (h : RowM R mN) {S : Nat} (hS : S < 2 ^ 31) : f_X7_cheapestOf (nI S) mN = offB (offR R (fun c => zoneN R c (R 2) (R 3)) S (R 0)) ∧ k_X7_cheapestOf (nI S) mN := by
  have h0 := hR.1
  obtain ⟨h1, h2⟩ := m_cheapL hR h hS FU 0 (by have := FU_big (n := R 0) (by omega); omega) (by omega)
  rw [f_X7_cheapestOf, k_X7_cheapestOf, neg2]
  exact ⟨congrArg Prod.fst h1, h2, trivial⟩
end OFFER
