/-! PURE, 5: charges -/
def billN (R : Nat → Nat) (c w l : Nat) : Nat := max w ((l + R (6 + 43 * c) - 1) / R (6 + 43 * c))
def fuelN (R : Nat → Nat) (c n : Nat) : Nat := n + n * R (7 + 43 * c) / 100
def chargeI (R : Nat → Nat) (S c z w : Nat) : Int32 :=
  if z = 3 then M2 else if R (4 + 43 * c) < w then M3 else if R (5 + 43 * c) < sumS R 1 S then M4 else match rateN R c z (billN R c w (sumS R 1 S)) with
  | none => M5
  | some q => nI (fuelN R c (q + cntN R c S (R 1) * R (9 + 43 * c)))
def chargeO (R : Nat → Nat) (S c z w : Nat) : Option Nat :=
  if z = 3 then none else if R (4 + 43 * c) < w then none else if R (5 + 43 * c) < sumS R 1 S then none else match rateN R c z (billN R c w (sumS R 1 S)) with
  | none => none
  | some q => some (fuelN R c (q + cntN R c S (R 1) * R (9 + 43 * c)))
theorem fuelN_le {R : Nat → Nat} (hR : RowOk R) {c n : Nat} (hc : c < R 0) (hn : n ≤ 8991) : n * R (7 + 43 * c) ≤ 8991 * 99 ∧ fuelN R c n ≤ 17892 := by
  have h1 := (hR.2.1 c hc).2.2.2.1
  have h2 : n * R (7 + 43 * c) ≤ 8991 * 99 := Nat.mul_le_mul hn h1
  refine ⟨h2, ?_⟩
  rw [fuelN]
  generalize n * R (7 + 43 * c) = t at h2 ⊢
  omega
theorem extra_le {R : Nat → Nat} (hR : RowOk R) {c S g : Nat} (hc : c < R 0) (hg : g ≤ R 1) : cntN R c S g * R (9 + 43 * c) ≤ 7992 := by
  have h1 := (hR.2.1 c hc).2.2.2.2.2.1
  have h2 := cntN_le (R := R) (c := c) (S := S) g
  have h3 := hR.1.2.2.1
  exact Nat.le_trans (Nat.mul_le_mul (show cntN R c S g ≤ 8 by omega) h1) (by omega)
theorem rateN_le {R : Nat → Nat} (hR : RowOk R) {c z b q : Nat} (hc : c < R 0) (hz : z ≤ 3) (h : rateN R c z b = some q) : q ≤ 999 := by
  rw [rateN] at h
  split at h
  · cases h
  · exact rateR_le hR hc (by omega) _ (Nat.le_refl _) q h
theorem chargeO_le {R : Nat → Nat} (hR : RowOk R) {S c z w n : Nat} (hc : c < R 0) (hz : z ≤ 3) (h : chargeO R S c z w = some n) : n ≤ 17892 := by
  rw [chargeO] at h
  split at h
  · cases h
  · split at h
    · cases h
    · split at h
      · cases h
      · split at h
        · cases h
        · rename_i q hq
          cases h
          have h1 := rateN_le hR hc hz hq
          have h2 := extra_le hR (S := S) hc (Nat.le_refl (R 1))
          exact (fuelN_le hR hc (by omega)).2
theorem chargeI_o {R : Nat → Nat} {S c z w : Nat} : (∃ n, chargeO R S c z w = some n ∧ chargeI R S c z w = nI n) ∨ (chargeO R S c z w = none ∧ chargeI R S c z w < nI 0) := by
  rw [chargeO, chargeI]
  split
  · exact Or.inr ⟨rfl, M2_neg⟩
  · split
    · exact Or.inr ⟨rfl, M3_neg⟩
    · split
      · exact Or.inr ⟨rfl, M4_neg⟩
      · split
        · exact Or.inr ⟨rfl, M5_neg⟩
        · exact Or.inl ⟨_, rfl, rfl⟩
section CHARGE
variable {R : Nat → Nat} {bA bB bZ bG bP bQ rK rL rG : Nat → Int32} {bC bM : Int32} {mN : Nat → Int32}
theorem c_billed (hR : RowOk R) (h : BookC R bA bB bZ bG bP bQ bC bM) (hp : PricesC R rK rL rG) {S c w : Nat} (hS : S < 2 ^ R 1) (hc : c < R 0) (hw : w < 10000) :
    f_X2_billedKilos (nI S) (nI c) (nI w) rL bA = nI (billN R c w (sumS R 1 S)) ∧ k_X2_billedKilos (nI c) bA ∧ billN R c w (sumS R 1 S) < 20000 := by
  have h1 := (hR.2.1 c hc).2.2.1
  have h2 := sumS_le hR (w := 1) (S := S) (by omega)
  have h3 := hR.1.2.2.1
  have h4 : 2 ^ R 1 ≤ 2 ^ 8 := Nat.pow_le_pow_right (by omega) h3
  have e1 := b_carrierNumber hR h (c := c) (j := 2) hc (by omega)
  rw [show 4 + 43 * c + 2 = 6 + 43 * c by omega] at e1
  have h5 : (sumS R 1 S + R (6 + 43 * c) - 1) / R (6 + 43 * c) ≤ sumS R 1 S + R (6 + 43 * c) - 1 := Nat.div_le_self _ _
  have hd : f_X2_divideUp (nI (sumS R 1 S)) (nI (R (6 + 43 * c))) = nI ((sumS R 1 S + R (6 + 43 * c) - 1) / R (6 + 43 * c)) := by
    rw [f_X2_divideUp, lit 1, if_pos (nI_le h1.1 (by omega)), nI_add, nI_sub (by omega), nI_div (by omega) (by omega)]
  refine ⟨?_, ?_, ?_⟩
  · rw [f_X2_billedKilos, lit 2, e1, at_in (by omega) (by omega), (hp.1 S hS).2, hd, jmax, billN]
    by_cases h6 : (sumS R 1 S + R (6 + 43 * c) - 1) / R (6 + 43 * c) ≤ w
    · rw [Nat.max_eq_left h6, if_neg (nI_nlt h6 (by omega))]
    · rw [Nat.max_eq_right (by omega), if_pos (nI_lt (by omega) (by omega))]
  · rw [k_X2_billedKilos, lit 2, e1, k_X2_divideUp, lit 1, if_pos (nI_le h1.1 (by omega))]
    exact ⟨⟨nI_ne0 (by omega) (by omega), trivial⟩, trivial⟩
  · rw [billN]; exact Nat.max_lt.mpr ⟨by omega, by omega⟩
theorem c_charge (hR : RowOk R) (h : BookC R bA bB bZ bG bP bQ bC bM) (hp : PricesC R rK rL rG) {S c z w : Nat} (hS : S < 2 ^ R 1) (hc : c < R 0) (hz : z ≤ 3) (hw : w < 10000) :
    f_X2_chargeOf (nI S) (nI c) (nI z) (nI w) rL rG bA bB bP = chargeI R S c z w ∧ k_X2_chargeOf (nI S) (nI c) (nI z) (nI w) rL rG bA bB bP := by
  have h1 := hR.2.1 c hc
  have h2 := sumS_le hR (w := 1) (S := S) (by omega)
  have h0 := hR.1.2.1
  have h3 := hR.1.2.2.1
  have h4 : 2 ^ R 1 ≤ 2 ^ 8 := Nat.pow_le_pow_right (by omega) h3
  obtain ⟨b1, b2, b3⟩ := c_billed hR h hp hS hc hw
  obtain ⟨p1, p2⟩ := c_price hR h (b := billN R c w (sumS R 1 S)) hc hz (by omega)
  have e0 := b_carrierNumber hR h (c := c) (j := 0) hc (by omega)
  have e1 := b_carrierNumber hR h (c := c) (j := 1) hc (by omega)
  have e3 := b_carrierNumber hR h (c := c) (j := 3) hc (by omega)
  have e5 := b_carrierNumber hR h (c := c) (j := 5) hc (by omega)
  rw [Nat.add_zero] at e0
  rw [show 4 + 43 * c + 1 = 5 + 43 * c by omega] at e1
  rw [show 4 + 43 * c + 3 = 7 + 43 * c by omega] at e3
  rw [show 4 + 43 * c + 5 = 9 + 43 * c by omega] at e5
  have hlg : longN R c (R 1) < 256 := Nat.lt_of_lt_of_le (longN_lt (R 1)) h4
  have hand : S &&& longN R c (R 1) < 256 := Nat.lt_of_le_of_lt Nat.and_le_left (by omega)
  rw [f_X2_chargeOf, k_X2_chargeOf, neg2, neg3, neg4, neg5, lit 0, lit 1, lit 3, lit 5, lit 100, b1, p1, e0, e1, e3, e5, at_in (f := rL) (by omega) (by omega), (hp.1 S hS).2, at_in (f := rG) (by omega) (by omega), hp.2 c hc, nI_and, c_pop hand, cnt_pop, show min 8 (R 1) = R 1 by omega, chargeI]
  by_cases hz3 : z = 3
  · subst hz3
    rw [if_pos rfl, if_pos rfl, if_pos rfl]
    exact ⟨rfl, trivial⟩
  · have h5 : ¬ nI z = nI 3 := fun e => hz3 ((nI_eq (a := z) (b := 3) (by omega) (by omega)).mp e)
    rw [if_neg h5, if_neg h5, if_neg hz3]
    by_cases h6 : R (4 + 43 * c) < w
    · rw [if_neg (nI_ge h6 (by omega)), if_neg (nI_ge h6 (by omega)), if_pos h6]
      exact ⟨rfl, trivial⟩
    · have g6 : nI w ≤ nI (R (4 + 43 * c)) := nI_le (by omega) (by omega)
      rw [if_pos g6, if_pos g6, if_neg h6]
      by_cases h7 : R (5 + 43 * c) < sumS R 1 S
      · rw [if_neg (nI_ge h7 (by omega)), if_neg (nI_ge h7 (by omega)), if_pos h7]
        exact ⟨rfl, trivial⟩
      · have g7 : nI (sumS R 1 S) ≤ nI (R (5 + 43 * c)) := nI_le (by omega) (by omega)
        rw [if_pos g7, if_pos g7, if_neg h7]
        cases hq : rateN R c z (billN R c w (sumS R 1 S)) with
        | none =>
          rw [show oI M1 none = M1 from rfl, if_neg (by decide +kernel), if_neg (by decide +kernel)]
          exact ⟨rfl, b2, p2, trivial⟩
        | some q =>
          have hq9 := rateN_le hR hc hz hq
          have h8 := extra_le hR (S := S) hc (Nat.le_refl (R 1))
          have h9 := fuelN_le hR (n := q + cntN R c S (R 1) * R (9 + 43 * c)) hc (by omega)
          have g8 : nI 0 ≤ nI q := nI_le (by omega) (by omega)
          rw [show oI M1 (some q) = nI q from rfl, if_pos g8, if_pos g8]
          simp only [nI_mul, nI_add]
          rw [nI_div (by omega) (by omega), nI_add]
          exact ⟨rfl, b2, p2, trivial, trivial⟩
theorem m_billed (hR : RowOk R) (h : RowM R mN) {c w l : Nat} (hc : c < R 0) (hw : w < 10000) (hl : l < 10000) : f_X7_billedOf (nI w) (nI l) (nI c) mN = nI (billN R c w l) ∧ k_X7_billedOf (nI c) mN ∧ billN R c w l < 20000 := by
  have h0 := hR.1.2.1
  have h1 := (hR.2.1 c hc).2.2.1
  have e1 := m_its h (c := c) (w := 2) (by omega)
  rw [show 4 + 43 * c + 2 = 6 + 43 * c by omega] at e1
  have h5 : (l + R (6 + 43 * c) - 1) / R (6 + 43 * c) ≤ l + R (6 + 43 * c) - 1 := Nat.div_le_self _ _
  refine ⟨?_, ?_, ?_⟩
  · rw [f_X7_billedOf, lit 2, lit 1, e1.1, nI_add, nI_sub (by omega), nI_div (by omega) (by omega), billN]
    by_cases h6 : (l + R (6 + 43 * c) - 1) / R (6 + 43 * c) ≤ w
    · rw [Nat.max_eq_left h6, if_pos (nI_le h6 (by omega))]
    · rw [Nat.max_eq_right (by omega), if_neg (nI_ge (by omega) (by omega))]
  · rw [k_X7_billedOf, lit 2, e1.1]
    exact ⟨e1.2, e1.2, nI_ne0 (by omega) (by omega), trivial⟩
  · rw [billN]; exact Nat.max_lt.mpr ⟨by omega, by omega⟩
theorem m_chargeL (hR : RowOk R) (h : RowM R mN) {S c q : Nat} (hS : S < 2 ^ 31) (hc : c < R 0) : ∀ (n g : Nat), R 1 < g + n → g ≤ R 1 →
    f_X7_chargeOf_L75 (nI S) (nI c) mN n (nI (q + cntN R c S g * R (9 + 43 * c))) (nI g) = (nI (q + cntN R c S (R 1) * R (9 + 43 * c)), nI (R 1)) ∧ k_X7_chargeOf_L75 (nI S) (nI c) mN n (nI (q + cntN R c S g * R (9 + 43 * c))) (nI g) := by
  have h0 := hR.1.2.1
  have h3 := hR.1.2.2.1
  have hb := hR.2.1 c hc
  intro n
  induction n with
  | zero => intro k h1 h2; omega
  | succ n ih =>
    intro g h1 h2
    rw [f_X7_chargeOf_L75, k_X7_chargeOf_L75, lit 1, m_at h (i := 1) (by omega)]
    by_cases h5 : g = R 1
    · rw [if_pos (nI_le (by omega) (by omega)), if_pos (nI_le (by omega) (by omega)), h5]
      exact ⟨rfl, trivial⟩
    · have hg : g < R 1 := by omega
      have hgl := good_le hR (w := 2) hg (by omega)
      have e1 := m_goodOf h (g := g) (w := 2) (by omega)
      have e4 := m_its h (c := c) (w := 4) (by omega)
      have e5 := m_its h (c := c) (w := 5) (by omega)
      rw [show 133 + 4 * g + 2 = 135 + 4 * g by omega] at e1 hgl
      rw [show 4 + 43 * c + 4 = 8 + 43 * c by omega] at e4
      rw [show 4 + 43 * c + 5 = 9 + 43 * c by omega] at e5
      rw [if_neg (nI_ge hg (by omega)), if_neg (nI_ge hg (by omega)), m_has hS (by omega), lit 2, lit 4, lit 5, lit 0, e1.1, e4.1, e5.1]
      simp only [nI_add]
      have h7 := ih (g + 1) (by omega) (by omega)
      rw [cntN] at h7
      by_cases h8 : S.testBit g = true
      · rw [if_pos h8, if_neg n10, if_neg n10]
        by_cases h9 : R (8 + 43 * c) < R (135 + 4 * g)
        · have hl : isLong R c g = true := decide_eq_true h9
          rw [if_neg (nI_ge h9 (by omega)), if_neg (nI_ge h9 (by omega))]
          rw [h8, hl, if_pos (by decide), Nat.add_mul, Nat.one_mul, ← Nat.add_assoc] at h7
          exact ⟨h7.1, e1.2, e4.2, e5.2, h7.2⟩
        · have hl : isLong R c g = false := decide_eq_false h9
          rw [if_pos (nI_le (by omega) (by omega)), if_pos (nI_le (by omega) (by omega))]
          rw [h8, hl, if_neg (by decide), Nat.add_zero] at h7
          exact ⟨h7.1, e1.2, e4.2, h7.2⟩
      · have h8' : S.testBit g = false := by simpa using h8
        rw [if_neg h8, if_pos rfl, if_pos rfl]
        rw [h8', Bool.false_and, if_neg (by decide), Nat.add_zero] at h7
        exact h7
theorem m_charge (hR : RowOk R) (h : RowM R mN) {S c w : Nat} (hS : S < 2 ^ 31) (hc : c < R 0) (hw : w < 10000) :
    f_X7_chargeOf (nI S) (nI c) (nI w) mN = chargeI R S c (zoneN R c (R 2) (R 3)) w ∧ k_X7_chargeOf (nI S) (nI c) (nI w) mN := by
  have h0 := hR.1
  have h1 := hR.2.1 c hc
  have h2 := sumS_le hR (w := 1) (S := S) (by omega)
  have hz : zoneN R c (R 2) (R 3) ≤ 3 := zoneR_le hR hc (by omega) _ (Nat.le_refl _)
  obtain ⟨z1, z2⟩ := m_zone hR h hc
  obtain ⟨s1, s2⟩ := m_sum hR h (S := S) (w := 1) hS (by omega)
  obtain ⟨b1, b2, b3⟩ := m_billed hR h (c := c) (w := w) (l := sumS R 1 S) hc hw (by omega)
  obtain ⟨p1, p2⟩ := m_rate hR h (b := billN R c w (sumS R 1 S)) hc (by omega)
  have e0 := m_its h (c := c) (w := 0) (by omega)
  have e1 := m_its h (c := c) (w := 1) (by omega)
  have e3 := m_its h (c := c) (w := 3) (by omega)
  rw [Nat.add_zero] at e0
  rw [show 4 + 43 * c + 1 = 5 + 43 * c by omega] at e1
  rw [show 4 + 43 * c + 3 = 7 + 43 * c by omega] at e3
  rw [f_X7_chargeOf, k_X7_chargeOf, neg2, neg3, neg4, neg5, lit 0, lit 1, lit 3, lit 100, z1, s1, b1, p1, e0.1, e1.1, e3.1, chargeI]
  generalize zoneN R c (R 2) (R 3) = z at hz p1 ⊢
  by_cases hz3 : z = 3
  · subst hz3
    rw [if_pos rfl, if_pos rfl, if_pos rfl]
    exact ⟨rfl, s2, z2, trivial⟩
  · have h5 : ¬ nI z = nI 3 := fun e => hz3 ((nI_eq (a := z) (b := 3) (by omega) (by omega)).mp e)
    rw [if_neg h5, if_neg h5, if_neg hz3]
    by_cases h6 : R (4 + 43 * c) < w
    · rw [if_neg (nI_ge h6 (by omega)), if_neg (nI_ge h6 (by omega)), if_pos h6]
      exact ⟨rfl, s2, z2, e0.2, trivial⟩
    · have g6 : nI w ≤ nI (R (4 + 43 * c)) := nI_le (by omega) (by omega)
      rw [if_pos g6, if_pos g6, if_neg h6]
      by_cases h7 : R (5 + 43 * c) < sumS R 1 S
      · rw [if_neg (nI_ge h7 (by omega)), if_neg (nI_ge h7 (by omega)), if_pos h7]
        exact ⟨rfl, s2, z2, e0.2, e1.2, trivial⟩
      · have g7 : nI (sumS R 1 S) ≤ nI (R (5 + 43 * c)) := nI_le (by omega) (by omega)
        rw [if_pos g7, if_pos g7, if_neg h7]
        cases hq : rateN R c z (billN R c w (sumS R 1 S)) with
        | none =>
          rw [show oI M2 none = M2 from rfl, if_pos rfl, if_pos rfl]
          exact ⟨rfl, s2, z2, e0.2, e1.2, b2, p2, trivial⟩
        | some q =>
          have hq9 := rateN_le hR hc hz hq
          have h8 := extra_le hR (S := S) hc (Nat.le_refl (R 1))
          have h9 := fuelN_le hR (n := q + cntN R c S (R 1) * R (9 + 43 * c)) hc (by omega)
          obtain ⟨l1, l2⟩ := m_chargeL hR h (q := q) hS hc FU 0 (by have := FU_big (n := R 1) (by omega); omega) (by omega)
          rw [cntN, Nat.zero_mul, Nat.add_zero] at l1 l2
          rw [show oI M2 (some q) = nI q from rfl, if_neg (nI_ne_neg M2_neg (by omega)), if_neg (nI_ne_neg M2_neg (by omega)), l1]
          simp only [nI_mul]
          rw [nI_div (by omega) (by omega), nI_add]
          exact ⟨rfl, s2, z2, e0.2, e1.2, b2, p2, l2, e3.2, trivial⟩
end CHARGE
