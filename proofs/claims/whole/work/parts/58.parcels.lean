/-! PURE, 9: the charge of a parcel -/
def inP (R : Nat → Nat) (q : Nat) : Nat := inN R (q + 1) (R 1)
def parcI (R : Nat → Nat) (q b : Nat) : Int32 :=
  if inP R q = 0 then nI 0 else chargeI R (inP R q) (R (165 + 2 * q)) (zoneN R (R (165 + 2 * q)) (R 2) (R 3)) (if b = 0 then sumS R 0 (inP R q) else if R (166 + 2 * q) = 0 then sumS R 0 (inP R q) else R (166 + 2 * q))
theorem pm1 (q : Nat) : nI q = nI (q + 1) - nI 1 := by rw [nI_sub (by omega)]; rfl
theorem inP_lt {R : Nat → Nat} (q : Nat) : inP R q < 2 ^ R 1 := inN_lt (R 1)
section PARCELS
variable {R : Nat → Nat} {bA bB bZ bG bP bQ rK rL rG pS : Nat → Int32} {bC bM : Int32} {mN : Nat → Int32}
theorem c_inP (hR : RowOk R) (h : PlanOf R pS) {q : Nat} (hq : q < 8) : f_X1_goodsIn (nI q) pS = nI (inP R q) ∧ k_X1_goodsIn (nI q) pS := by
  have e := c_in hR h (q := q + 1) (by omega)
  rw [← pm1, inN_8 hR (by omega)] at e
  exact e
theorem m_inP (hR : RowOk R) (h : RowM R mN) {q : Nat} (hq : q < 8) : f_X7_inParcel (nI q) mN = nI (inP R q) ∧ k_X7_inParcel (nI q) mN := by
  have e := m_in hR h (q := q + 1) (by omega)
  rw [← pm1] at e
  exact e
theorem p_place (h : PlanOf R pS) : f_X1_place pS = nI (R 2) := by rw [f_X1_place, lit 24, cl (by omega), h.2.2.1]
theorem p_day (h : PlanOf R pS) : f_X1_day pS = nI (R 3) := by rw [f_X1_day, lit 25, cl (by omega), h.2.2.2]
theorem c_zoneNow (hR : RowOk R) (h : BookC R bA bB bZ bG bP bQ bC bM) (hq : PlanOf R pS) {c : Nat} (hc : c < R 0) : f_X6_zoneNow (nI c) pS bZ bQ = nI (zoneN R c (R 2) (R 3)) ∧ k_X6_zoneNow (nI c) pS bZ bQ := by
  have h0 := hR.1
  obtain ⟨e1, e2⟩ := c_zone hR h (pl := R 2) (dy := R 3) hc (by omega) (by omega)
  rw [f_X6_zoneNow, k_X6_zoneNow, p_place hq, p_day hq]
  exact ⟨e1, e2, trivial⟩
theorem c_parc (hR : RowOk R) (h : BookC R bA bB bZ bG bP bQ bC bM) (hp : PricesC R rK rL rG) (hl : PlanOf R pS) {q b : Nat} (hq : q < 8) (hb : b ≤ 1) :
    f_X6_parcelCharge (nI q) (nI b) rK rL rG pS bA bB bZ bP bQ = parcI R q b ∧ k_X6_parcelCharge (nI q) (nI b) rK rL rG pS bA bB bZ bP bQ := by
  have h0 := hR.1
  have h4 : 2 ^ R 1 ≤ 2 ^ 8 := Nat.pow_le_pow_right (by omega) h0.2.2.1
  have hi := inP_lt (R := R) q
  have hc := hR.2.2.2.2.2.2 q hq
  have hz : zoneN R (R (165 + 2 * q)) (R 2) (R 3) ≤ 3 := zoneN_le hR hc.1 (by omega)
  have hs := sumS_le0 hR (S := inP R q)
  obtain ⟨i1, i2⟩ := c_inP hR hl hq
  obtain ⟨z1, z2⟩ := c_zoneNow hR h hl hc.1
  have ek : f_X2_kilosOf (nI (inP R q)) rK = nI (sumS R 0 (inP R q)) := by rw [f_X2_kilosOf, at_in (by omega) (by omega), (hp.1 _ hi).1]
  rw [f_X6_parcelCharge, k_X6_parcelCharge, lit 0, i1, p_carrierOf hl hq, p_claimedOf hl hq, z1, ek, parcI]
  by_cases h1 : inP R q = 0
  · rw [h1, if_pos rfl, if_pos rfl, if_pos rfl]
    rw [h1] at i1
    exact ⟨rfl, i2, trivial⟩
  · have g1 : ¬ nI (inP R q) = nI 0 := fun e => h1 ((nI_eq (by omega) (by omega)).mp e)
    rw [if_neg g1, if_neg g1, if_neg h1]
    obtain ⟨a1, a2⟩ := c_charge hR h hp (S := inP R q) (w := sumS R 0 (inP R q)) hi hc.1 hz (by omega)
    by_cases h2 : b = 0
    · have g2 : nI b = nI 0 := by rw [h2]
      rw [if_pos g2, if_pos g2, if_pos h2, a1]
      exact ⟨rfl, i2, z2, a2, trivial⟩
    · have g2 : ¬ nI b = nI 0 := fun e => h2 ((nI_eq (by omega) (by omega)).mp e)
      rw [if_neg g2, if_neg g2, if_neg h2]
      by_cases h3 : R (166 + 2 * q) = 0
      · have g3 : nI (R (166 + 2 * q)) ≤ nI 0 := nI_le (by omega) (by omega)
        rw [if_pos g3, if_pos g3, if_pos h3, a1]
        exact ⟨rfl, i2, z2, a2, trivial⟩
      · have g3 : ¬ nI (R (166 + 2 * q)) ≤ nI 0 := nI_ge (by omega) (by omega)
        obtain ⟨d1, d2⟩ := c_charge hR h hp (S := inP R q) (w := R (166 + 2 * q)) hi hc.1 hz (by omega)
        rw [if_neg g3, if_neg g3, if_neg h3, d1]
        exact ⟨rfl, i2, z2, d2, trivial⟩
theorem m_parc (hR : RowOk R) (h : RowM R mN) {q b : Nat} (hq : q < 8) (hb : b ≤ 1) : f_X7_chargeIn (nI q) (nI b) mN = parcI R q b ∧ k_X7_chargeIn (nI q) (nI b) mN := by
  have h0 := hR.1
  have h4 : 2 ^ R 1 ≤ 2 ^ 8 := Nat.pow_le_pow_right (by omega) h0.2.2.1
  have hi := inP_lt (R := R) q
  have hc := hR.2.2.2.2.2.2 q hq
  have hs := sumS_le0 hR (S := inP R q)
  obtain ⟨i1, i2⟩ := m_inP hR h hq
  obtain ⟨s1, s2⟩ := m_sum hR h (S := inP R q) (w := 0) (by omega) (by omega)
  have v0 : vp_in (nI (165 + 2 * q)) 181 := vp_in_nI (by omega) (by omega)
  have v1 : vp_in (nI (166 + 2 * q)) 181 := vp_in_nI (by omega) (by omega)
  rw [f_X7_chargeIn, k_X7_chargeIn, lit 165, lit 2, lit 0, lit 1]
  simp only [nI_mul, nI_add]
  rw [m_at h (i := 165 + 2 * q + 0) (by omega), m_at h (i := 165 + 2 * q + 1) (by omega), i1, s1, parcI, Nat.add_zero, show 165 + 2 * q + 1 = 166 + 2 * q by omega]
  by_cases h1 : inP R q = 0
  · rw [h1, if_pos rfl, if_pos rfl, if_pos rfl]
    exact ⟨rfl, i2, v1, trivial⟩
  · have g1 : ¬ nI (inP R q) = nI 0 := fun e => h1 ((nI_eq (by omega) (by omega)).mp e)
    rw [if_neg g1, if_neg g1, if_neg h1]
    obtain ⟨a1, a2⟩ := m_charge hR h (S := inP R q) (c := R (165 + 2 * q)) (w := sumS R 0 (inP R q)) (by omega) hc.1 (by omega)
    by_cases h2 : b = 0
    · have g2 : nI b = nI 0 := by rw [h2]
      rw [if_pos g2, if_pos g2, if_pos h2, a1]
      exact ⟨rfl, i2, v1, v0, s2, a2, trivial⟩
    · have g2 : ¬ nI b = nI 0 := fun e => h2 ((nI_eq (by omega) (by omega)).mp e)
      rw [if_neg g2, if_neg g2, if_neg h2]
      by_cases h3 : R (166 + 2 * q) = 0
      · have g3 : nI (R (166 + 2 * q)) ≤ nI 0 := nI_le (by omega) (by omega)
        rw [if_pos g3, if_pos g3, if_pos h3, a1]
        exact ⟨rfl, i2, v1, v0, s2, a2, trivial⟩
      · have g3 : ¬ nI (R (166 + 2 * q)) ≤ nI 0 := nI_ge (by omega) (by omega)
        obtain ⟨d1, d2⟩ := m_charge hR h (S := inP R q) (c := R (165 + 2 * q)) (w := R (166 + 2 * q)) (by omega) hc.1 (by omega)
        rw [if_neg g3, if_neg g3, if_neg h3, d1]
        exact ⟨rfl, i2, v1, v0, d2, trivial⟩
end PARCELS
