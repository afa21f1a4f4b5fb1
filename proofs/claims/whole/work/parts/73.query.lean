/-! PURE, 24: the questions, both sides alike -/
theorem one0 : ¬ (1 : Int32) = 0 := by decide
theorem nI_ne {a b : Nat} (ha : a < 2 ^ 31) (hb : b < 2 ^ 31) (h : a ≠ b) : ¬ nI a = nI b := fun e => h ((nI_eq ha hb).mp e)
section QUERY
variable {R : Nat → Nat} {bA bB bZ bG bP bQ rK rL rG pS : Nat → Int32} {bC bM : Int32} {mN : Nat → Int32}
theorem t_zone (hR : RowOk R) (h : BookC R bA bB bZ bG bP bQ bC bM) (hl : PlanOf R pS) (hm : RowM R mN) (x : Int32) : f_X6_zone x pS bZ bQ bC = (f_X7_zone x mN).1 ∧ k_X6_zone x pS bZ bQ bC ∧ k_X7_zone x mN := by
  have hbC := h.1
  subst hbC
  have k0 : k_X7_isCarrier x mN := ⟨isIn01 _ _ _, trivial⟩
  rw [f_X6_zone, f_X7_zone, k_X6_zone, k_X7_zone]
  rcases car_of hR hm x with ⟨a1, a2⟩ | ⟨c, hc, rfl, a1, a2⟩
  · simp only [a1, a2, if_true]
    exact ⟨trivial, trivial, k0, trivial⟩
  · obtain ⟨z1, z2⟩ := c_zoneNow hR h hl hc
    obtain ⟨y1, y2⟩ := m_zone hR hm hc
    simp only [a1, a2, if_neg one0]
    exact ⟨z1.trans y1.symm, ⟨z2, trivial⟩, k0, y2, trivial⟩
theorem t_rate (hR : RowOk R) (h : BookC R bA bB bZ bG bP bQ bC bM) (hl : PlanOf R pS) (hm : RowM R mN) (x y : Int32) : f_X6_rate x y pS bB bZ bP bQ bC = (f_X7_rate x y mN).1 ∧ k_X6_rate x y pS bB bZ bP bQ bC ∧ k_X7_rate x y mN := by
  have hbC := h.1
  subst hbC
  have h0 := hR.1
  have k0 : k_X7_isCarrier x mN := ⟨isIn01 _ _ _, trivial⟩
  rw [f_X6_rate, f_X7_rate, k_X6_rate, k_X7_rate]
  rcases car_of hR hm x with ⟨a1, a2⟩ | ⟨c, hc, rfl, a1, a2⟩
  · simp only [a1, a2, if_true]
    exact ⟨trivial, trivial, k0, trivial⟩
  · obtain ⟨z1, z2⟩ := c_zoneNow hR h hl hc
    have hz : zoneN R c (R 2) (R 3) ≤ 3 := zoneN_le hR hc (by omega)
    have e9 : f_X7_isIn y 1 999 = f_X7_isIn y (nI 1) (nI (999 + 1) - nI 1) := by rw [← pm1]; rfl
    simp only [a1, a2, if_neg one0, e9]
    rcases isIn_of y (a := 1) (n := 999 + 1) (by omega) (by omega) with ⟨b1, b2⟩ | ⟨b, b1, b2, rfl, b4⟩
    · simp only [b1, if_true]
      have e : (if y < 1 then (-1 : Int32) else if y ≤ 999 then (if 0 ≤ f_X2_priceOf (nI c) (f_X6_zoneNow (nI c) pS bZ bQ) y bB bP then f_X2_priceOf (nI c) (f_X6_zoneNow (nI c) pS bZ bQ) y bB bP else -2) else -1) = -1 := by
        by_cases c1 : y < 1
        · rw [if_pos c1]
        · rw [if_neg c1]
          by_cases c2 : y ≤ 999
          · exfalso
            have c0 : ¬ y < 0 := by
              intro c0
              rw [Int32.lt_iff_toInt_lt] at c0 c1
              have e0 : (0 : Int32).toInt = 0 := rfl
              have e1 : (1 : Int32).toInt = 1 := rfl
              omega
            obtain ⟨j, hj, rfl⟩ := nI_of c0
            have j1 : ¬ nI j < nI 1 := c1
            have j2 : nI j ≤ nI 999 := c2
            rw [nI_ltI hj (by omega)] at j1
            rw [nI_leI hj (by omega)] at j2
            exact b2 j (by omega) (by omega) rfl
          · rw [if_neg c2]
      refine ⟨e, ?_, k0, trivial⟩
      by_cases c1 : y < 1
      · rw [if_pos c1]; trivial
      · rw [if_neg c1]
        by_cases c2 : y ≤ 999
        · exfalso
          have c0 : ¬ y < 0 := by
            intro c0
            rw [Int32.lt_iff_toInt_lt] at c0 c1
            have e0 : (0 : Int32).toInt = 0 := rfl
            have e1 : (1 : Int32).toInt = 1 := rfl
            omega
          obtain ⟨j, hj, rfl⟩ := nI_of c0
          have j1 : ¬ nI j < nI 1 := c1
          have j2 : nI j ≤ nI 999 := c2
          rw [nI_ltI hj (by omega)] at j1
          rw [nI_leI hj (by omega)] at j2
          exact b2 j (by omega) (by omega) rfl
        · rw [if_neg c2]; trivial
    · obtain ⟨q1, q2⟩ := c_price hR h (z := zoneN R c (R 2) (R 3)) (b := b) hc hz (by omega)
      obtain ⟨r1, r2⟩ := m_rate hR hm (c := c) (b := b) hc (by omega)
      have c1 : ¬ nI b < (1 : Int32) := nI_nlt (a := b) (b := 1) b1 (by omega)
      have c2 : nI b ≤ (999 : Int32) := nI_le (a := b) (b := 999) (by omega) (by omega)
      simp only [b4, if_neg one0, if_neg c1, if_pos c2, z1, q1, r1]
      refine ⟨?_, ⟨z2, q2, trivial⟩, k0, r2, trivial⟩
      cases hq : rateN R c (zoneN R c (R 2) (R 3)) b with
      | none => exact if_neg (by decide +kernel)
      | some q =>
        have := rateN_le hR hc hz hq
        exact if_pos (nI_pos' (by omega))
theorem t_billed (hR : RowOk R) (h : BookC R bA bB bZ bG bP bQ bC bM) (hp : PricesC R rK rL rG) (hm : RowM R mN) (x y : Int32) : f_X6_billed x y rK rL bA bC bM = (f_X7_billed x y mN).1 ∧ k_X6_billed x y bA bC bM ∧ k_X7_billed x y mN := by
  have hbC := h.1
  have hbM := h.2.1
  subst hbC
  subst hbM
  have h4 : 2 ^ R 1 ≤ 2 ^ 8 := Nat.pow_le_pow_right (by omega) hR.1.2.2.1
  have k0 : k_X7_isCarrier y mN := ⟨isIn01 _ _ _, trivial⟩
  have k1 : k_X7_isSet x mN := ⟨isIn01 _ _ _, trivial⟩
  rw [f_X6_billed, f_X7_billed, k_X6_billed, k_X7_billed]
  rcases set_of hR hm x with ⟨a1, a2⟩ | ⟨S, s1, s2, rfl, a1, a2⟩
  · simp only [a1, a2, if_true]
    exact ⟨trivial, trivial, k1, trivial⟩
  · rcases car_of hR hm y with ⟨b1, b2⟩ | ⟨c, hc, rfl, b1, b2⟩
    · simp only [a1, a2, b1, b2, if_neg one0, if_true]
      exact ⟨trivial, trivial, k1, k0, trivial⟩
    · have hk := sumS_le0 hR (S := S)
      have hl := sumS_le hR (w := 1) (S := S) (by omega)
      have ek : f_X2_kilosOf (nI S) rK = nI (sumS R 0 S) := by rw [f_X2_kilosOf, at_in (by omega) (by omega), (hp.1 S s2).1]
      obtain ⟨q1, q2, q3⟩ := c_billed hR h hp (w := sumS R 0 S) s2 hc (by omega)
      obtain ⟨m1, m2⟩ := m_sum hR hm (S := S) (w := 0) (by omega) (by omega)
      obtain ⟨n1, n2⟩ := m_sum hR hm (S := S) (w := 1) (by omega) (by omega)
      obtain ⟨r1, r2, r3⟩ := m_billed hR hm (c := c) (w := sumS R 0 S) (l := sumS R 1 S) hc (by omega) (by omega)
      have m1' : f_X7_sumOf (nI S) 0 mN = nI (sumS R 0 S) := m1
      have n1' : f_X7_sumOf (nI S) 1 mN = nI (sumS R 1 S) := n1
      simp only [a1, a2, b1, b2, if_neg one0, ek, q1, m1', n1', r1]
      exact ⟨trivial, ⟨q2, trivial⟩, k1, k0, m2, n2, r2, trivial⟩
theorem t_charge (hR : RowOk R) (h : BookC R bA bB bZ bG bP bQ bC bM) (hp : PricesC R rK rL rG) (hl : PlanOf R pS) (hm : RowM R mN) (x y : Int32) : f_X6_charge x y rK rL rG pS bA bB bZ bP bQ bC bM = (f_X7_charge x y mN).1 ∧ k_X6_charge x y rK rL rG pS bA bB bZ bP bQ bC bM ∧ k_X7_charge x y mN := by
  have hbC := h.1
  have hbM := h.2.1
  subst hbC
  subst hbM
  have h0 := hR.1
  have h4 : 2 ^ R 1 ≤ 2 ^ 8 := Nat.pow_le_pow_right (by omega) hR.1.2.2.1
  have k0 : k_X7_isCarrier y mN := ⟨isIn01 _ _ _, trivial⟩
  have k1 : k_X7_isSet x mN := ⟨isIn01 _ _ _, trivial⟩
  rw [f_X6_charge, f_X7_charge, k_X6_charge, k_X7_charge]
  rcases set_of hR hm x with ⟨a1, a2⟩ | ⟨S, s1, s2, rfl, a1, a2⟩
  · simp only [a1, a2, if_true]
    exact ⟨trivial, trivial, k1, trivial⟩
  · rcases car_of hR hm y with ⟨b1, b2⟩ | ⟨c, hc, rfl, b1, b2⟩
    · simp only [a1, a2, b1, b2, if_neg one0, if_true]
      exact ⟨trivial, trivial, k1, k0, trivial⟩
    · have hk := sumS_le0 hR (S := S)
      have hz : zoneN R c (R 2) (R 3) ≤ 3 := zoneN_le hR hc (by omega)
      have ek : f_X2_kilosOf (nI S) rK = nI (sumS R 0 S) := by rw [f_X2_kilosOf, at_in (by omega) (by omega), (hp.1 S s2).1]
      obtain ⟨z1, z2⟩ := c_zoneNow hR h hl hc
      obtain ⟨q1, q2⟩ := c_charge hR h hp (w := sumS R 0 S) s2 hc hz (by omega)
      obtain ⟨m1, m2⟩ := m_sum hR hm (S := S) (w := 0) (by omega) (by omega)
      obtain ⟨r1, r2⟩ := m_charge hR hm (S := S) (c := c) (w := sumS R 0 S) (by omega) hc (by omega)
      have m1' : f_X7_sumOf (nI S) 0 mN = nI (sumS R 0 S) := m1
      simp only [a1, a2, b1, b2, if_neg one0, ek, z1, q1, m1', r1]
      exact ⟨trivial, ⟨z2, q2, trivial⟩, k1, k0, m2, r2, trivial⟩
theorem offZ_N (hR : RowOk R) {pl dy : Nat} (hp : pl ≤ 3) {S : Nat} : offN R (zAt R pl dy (R 0)) S = offR R (fun c => zoneN R c pl dy) S (R 0) :=
  offR_congr (R 0) (fun c hc => (zAt_ok hR hp (Nat.le_refl _)).2 c hc)
theorem t_cheapest (hR : RowOk R) (h : BookC R bA bB bZ bG bP bQ bC bM) (hp : PricesC R rK rL rG) (hl : PlanOf R pS) (hm : RowM R mN) (x : Int32) : f_X6_cheapest x rK rL rG pS bA bB bZ bP bQ bC bM = (f_X7_cheapest x mN).1 ∧ k_X6_cheapest x rK rL rG pS bA bB bZ bP bQ bC bM ∧ k_X7_cheapest x mN := by
  have hbM := h.2.1
  subst hbM
  have h0 := hR.1
  have h4 : 2 ^ R 1 ≤ 2 ^ 8 := Nat.pow_le_pow_right (by omega) hR.1.2.2.1
  have k1 : k_X7_isSet x mN := ⟨isIn01 _ _ _, trivial⟩
  rw [f_X6_cheapest, f_X7_cheapest, k_X6_cheapest, k_X7_cheapest]
  rcases set_of hR hm x with ⟨a1, a2⟩ | ⟨S, s1, s2, rfl, a1, a2⟩
  · simp only [a1, a2, if_true]
    exact ⟨trivial, trivial, k1, trivial⟩
  · obtain ⟨z1, z2⟩ := c_zones hR h (pl := R 2) (dy := R 3) (by omega) (by omega)
    have hZ := (zAt_ok hR (pl := R 2) (dy := R 3) (by omega) (m := R 0) (Nat.le_refl _)).1
    obtain ⟨q1, q2⟩ := c_offer hR h hp (S := S) (Z := zAt R (R 2) (R 3) (R 0)) s2 (by omega)
    obtain ⟨r1, r2⟩ := m_cheap hR hm (S := S) (by omega)
    have eo : offR R (zIn (zAt R (R 2) (R 3) (R 0))) S (R 0) = offR R (fun c => zoneN R c (R 2) (R 3)) S (R 0) := offZ_N hR (pl := R 2) (dy := R 3) (by omega)
    rw [eo] at q1
    simp only [a1, a2, if_neg one0, p_place hl, p_day hl, z1, q1, r1]
    refine ⟨?_, ⟨z2, q2, trivial⟩, k1, r2, trivial⟩
    cases hq : offR R (fun c => zoneN R c (R 2) (R 3)) S (R 0) with
    | none => exact if_neg (by decide +kernel)
    | some q =>
      have hq9 := offZ_ok hR S q hq
      refine (if_pos (nI_pos' (by omega))).trans ?_
      show f_X2_carrierOfOffer (nI q) = nI (q % 3)
      rw [f_X2_carrierOfOffer, lit 3, nI_rem (by omega) (by omega)]
theorem t_bound (hR : RowOk R) (h : BookC R bA bB bZ bG bP bQ bC bM) (hp : PricesC R rK rL rG) (hl : PlanOf R pS) (hm : RowM R mN) : f_X6_bound rK pS bB bZ bP bQ bC bM = (f_X7_bound mN).1 ∧ k_X6_bound rK pS bB bZ bP bQ bC bM ∧ k_X7_bound mN := by
  obtain ⟨a1, a2⟩ := c_low hR h hp hl
  obtain ⟨b1, b2⟩ := m_bound hR hm
  rw [f_X6_bound, f_X7_bound, k_X6_bound, k_X7_bound, a1, b1]
  exact ⟨rfl, ⟨a2, trivial⟩, b2, trivial⟩
theorem t_parcel (hR : RowOk R) (h : BookC R bA bB bZ bG bP bQ bC bM) (hp : PricesC R rK rL rG) (hl : PlanOf R pS) (hm : RowM R mN) (x y : Int32) : f_X6_parcel x y rK rL rG pS bA bB bZ bP bQ = (f_X7_parcel x y mN).1 ∧ k_X6_parcel x y rK rL rG pS bA bB bZ bP bQ ∧ k_X7_parcel x y mN := by
  have k0 : k_X7_isParcel x := ⟨isIn01 _ _ _, trivial⟩
  rw [f_X6_parcel, f_X7_parcel, k_X6_parcel, k_X7_parcel]
  rcases isParcel_of x with ⟨a1, a2⟩ | ⟨q, hq, rfl, a1, a2⟩
  · simp only [a1, a2, if_true]
    exact ⟨trivial, trivial, k0, trivial⟩
  · have v0 : vp_in (nI (165 + 2 * q + 0)) 181 := vp_in_nI (by omega) (by omega)
    have v1 : vp_in (nI (165 + 2 * q + 1)) 181 := vp_in_nI (by omega) (by omega)
    have w0 : (165 + (2 * nI q)) + 0 = nI (165 + 2 * q + 0) := by rw [lit 165, lit 2, lit 0, nI_mul, nI_add, nI_add]
    have w1 : (165 + (2 * nI q)) + 1 = nI (165 + 2 * q + 1) := by rw [lit 165, lit 2, lit 1, nI_mul, nI_add, nI_add]
    obtain ⟨i1, i2⟩ := c_inP hR hl hq
    obtain ⟨j1, j2⟩ := m_inP hR hm hq
    obtain ⟨p1, p2⟩ := c_parc hR h hp hl (b := 0) hq (by omega)
    obtain ⟨p3, p4⟩ := c_parc hR h hp hl (b := 1) hq (by omega)
    obtain ⟨r1, r2⟩ := m_parc hR hm (b := 0) hq (by omega)
    obtain ⟨r3, r4⟩ := m_parc hR hm (b := 1) hq (by omega)
    have p1' : f_X6_parcelCharge (nI q) 0 rK rL rG pS bA bB bZ bP bQ = parcI R q 0 := p1
    have p3' : f_X6_parcelCharge (nI q) 1 rK rL rG pS bA bB bZ bP bQ = parcI R q 1 := p3
    have r1' : f_X7_chargeIn (nI q) 0 mN = parcI R q 0 := r1
    have r3' : f_X7_chargeIn (nI q) 1 mN = parcI R q 1 := r3
    have e0 : mN (Int32.toNatClampNeg (nI (165 + 2 * q + 0))) = nI (R (165 + 2 * q)) := m_at hm (by omega)
    have e1 : mN (Int32.toNatClampNeg (nI (165 + 2 * q + 1))) = nI (R (166 + 2 * q)) := by
      rw [m_at hm (by omega), show 165 + 2 * q + 1 = 166 + 2 * q by omega]
    simp only [a1, a2, if_neg one0, w0, w1, i1, j1, p1', p3', r1', r3', p_carrierOf hl hq, p_claimedOf hl hq, e0, e1]
    by_cases c0 : y = 0
    · simp only [if_pos c0]
      exact ⟨trivial, ⟨i2, trivial⟩, k0, v1, j2, trivial⟩
    · by_cases c1 : y = 1
      · simp only [if_neg c0, if_pos c1]
        exact ⟨trivial, trivial, k0, v1, v0, trivial⟩
      · by_cases c2 : y = 2
        · simp only [if_neg c0, if_neg c1, if_pos c2]
          refine ⟨?_, trivial, k0, v1, trivial⟩
          split <;> rfl
        · by_cases c3 : y = 3
          · simp only [if_neg c0, if_neg c1, if_neg c2, if_pos c3]
            exact ⟨trivial, ⟨p2, trivial⟩, k0, v1, r2, trivial⟩
          · by_cases c4 : y = 4
            · simp only [if_neg c0, if_neg c1, if_neg c2, if_neg c3, if_pos c4]
              exact ⟨trivial, ⟨p4, trivial⟩, k0, v1, r4, trivial⟩
            · simp only [if_neg c0, if_neg c1, if_neg c2, if_neg c3, if_neg c4]
              exact ⟨trivial, trivial, k0, v1, trivial⟩
theorem in03 (x : Int32) : (f_X7_isIn x 0 3 = 0 ∧ ¬ x = 0 ∧ ¬ x = 1 ∧ ¬ x = 2 ∧ ¬ x = 3) ∨ (f_X7_isIn x 0 3 = 1 ∧ ∃ j : Nat, j < 4 ∧ x = nI j) := by
  have e : f_X7_isIn x 0 3 = f_X7_isIn x (nI 0) (nI (3 + 1) - nI 1) := by rw [← pm1]; rfl
  rw [e]
  rcases isIn_of x (a := 0) (n := 3 + 1) (by omega) (by omega) with ⟨b1, b2⟩ | ⟨b, b1, b2, b3, b4⟩
  · exact Or.inl ⟨b1, b2 0 (by omega) (by omega), b2 1 (by omega) (by omega), b2 2 (by omega) (by omega), b2 3 (by omega) (by omega)⟩
  · exact Or.inr ⟨b4, b, b2, b3⟩
theorem t_now (hR : RowOk R) (hm : RowM R mN) (hl : PlanOf R pS) {tN pK : Int32} (hC : bC = nI (R 0)) (hM : bM = nI (R 1)) (x : Int32) : f_X6_now x pS tN pK bC bM = (f_X7_now x mN tN pK).1 ∧ k_X6_now x pS ∧ k_X7_now x mN := by
  subst hC
  subst hM
  obtain ⟨p1, p2⟩ := c_pck hR hl
  obtain ⟨q1, q2⟩ := m_pck hR hm
  obtain ⟨r1, r2⟩ := c_fil hR hl
  obtain ⟨s1, s2⟩ := m_par hR hm
  rw [f_X6_now, f_X7_now, k_X6_now, k_X7_now]
  rcases in03 x with ⟨a1, a2, a3, a4, a5⟩ | ⟨a1, j, hj, rfl⟩
  · simp only [a1, if_true, if_neg a2, if_neg a3, if_neg a4, if_neg a5, q1, p1, r1, s1]
    by_cases c4 : x = 4
    · simp only [if_pos c4]
      exact ⟨trivial, ⟨p2, trivial⟩, q2, trivial⟩
    · by_cases c5 : x = 5
      · simp only [if_neg c4, if_pos c5]
        exact ⟨trivial, ⟨r2, trivial⟩, s2, trivial⟩
      · by_cases c6 : x = 6
        · simp only [if_neg c4, if_neg c5, if_pos c6]
          exact ⟨rfl, trivial, trivial⟩
        · by_cases c7 : x = 7
          · simp only [if_neg c4, if_neg c5, if_neg c6, if_pos c7]
            exact ⟨rfl, trivial, trivial⟩
          · simp only [if_neg c4, if_neg c5, if_neg c6, if_neg c7]
            exact ⟨trivial, trivial, trivial⟩
  · simp only [a1, if_neg one0]
    have v : vp_in (nI j) 181 := vp_in_nI (by omega) (by omega)
    rw [m_at hm (by omega), lit 0, lit 1, lit 2, lit 3]
    rcases (show j = 0 ∨ j = 1 ∨ j = 2 ∨ j = 3 by omega) with rfl | rfl | rfl | rfl
    · rw [if_pos rfl, if_pos rfl]; exact ⟨rfl, trivial, v, trivial⟩
    · rw [if_neg n10, if_neg n10, if_pos rfl, if_pos rfl]; exact ⟨rfl, trivial, v, trivial⟩
    · rw [if_neg (nI_ne (a := 2) (b := 0) (by omega) (by omega) (by omega)), if_neg (nI_ne (a := 2) (b := 0) (by omega) (by omega) (by omega)), if_neg (nI_ne (a := 2) (b := 1) (by omega) (by omega) (by omega)), if_neg (nI_ne (a := 2) (b := 1) (by omega) (by omega) (by omega)), if_pos rfl, if_pos rfl, p_place hl]; exact ⟨rfl, trivial, v, trivial⟩
    · rw [if_neg (nI_ne (a := 3) (b := 0) (by omega) (by omega) (by omega)), if_neg (nI_ne (a := 3) (b := 0) (by omega) (by omega) (by omega)), if_neg (nI_ne (a := 3) (b := 1) (by omega) (by omega) (by omega)), if_neg (nI_ne (a := 3) (b := 1) (by omega) (by omega) (by omega)), if_neg (nI_ne (a := 3) (b := 2) (by omega) (by omega) (by omega)), if_neg (nI_ne (a := 3) (b := 2) (by omega) (by omega) (by omega)), if_pos rfl, if_pos rfl, p_day hl]; exact ⟨rfl, trivial, v, trivial⟩
theorem t_goodk (hR : RowOk R) (hm : RowM R mN) (x y : Int32) : k_X7_good x y mN := by
  have h0 := hR.1
  have k0 : k_X7_isGood x mN := ⟨isIn01 _ _ _, trivial⟩
  rw [k_X7_good]
  refine ⟨k0, ?_⟩
  rcases good_of hR hm x with ⟨a1, a2⟩ | ⟨g, hg, rfl, a1, a2⟩
  · simp only [a2, if_true]
  · simp only [a2, if_neg one0]
    rcases in03 y with ⟨b1, _⟩ | ⟨b1, j, hj, rfl⟩
    · simp only [b1, if_true]
    · simp only [b1, if_neg one0]
      split
      · exact ⟨(m_parcelOf hm (by omega)).2, trivial⟩
      · exact ⟨(m_goodOf hm (by omega)).2, trivial⟩
theorem t_good (hR : RowOk R) (h : BookC R bA bB bZ bG bP bQ bC bM) (hl : PlanOf R pS) (hm : RowM R mN) (x y : Int32) :
    ((f_X0_hasGood x bM = 0 ∨ (¬ y = 0 ∧ ¬ y = 1 ∧ ¬ y = 2 ∧ ¬ y = 3)) ∧ (f_X7_good x y mN).2 = 1) ∨ (¬ (f_X0_hasGood x bM = 0 ∨ (¬ y = 0 ∧ ¬ y = 1 ∧ ¬ y = 2 ∧ ¬ y = 3)) ∧ (f_X7_good x y mN).2 = 0 ∧ f_X6_good x y pS bG bM = (f_X7_good x y mN).1) := by
  have hbM := h.2.1
  subst hbM
  have h0 := hR.1
  rw [f_X7_good, f_X6_good]
  rcases good_of hR hm x with ⟨a1, a2⟩ | ⟨g, hg, rfl, a1, a2⟩
  · simp only [a1, a2, if_true]
    exact Or.inl ⟨Or.inl trivial, rfl⟩
  · simp only [a1, a2, if_neg one0]
    rcases in03 y with ⟨b1, b2⟩ | ⟨b1, j, hj, rfl⟩
    · simp only [b1, if_true]
      exact Or.inl ⟨Or.inr b2, rfl⟩
    · have e0 := b_goodNumber hR h (w := 0) hg (by omega)
      have e1 := b_goodNumber hR h (w := 1) hg (by omega)
      have e2 := b_goodNumber hR h (w := 2) hg (by omega)
      have ep := p_parcelOf hl (g := g) (by omega)
      have mp := (m_parcelOf hm (g := g) (by omega)).1
      have mg := fun w (hw : w < 3) => (m_goodOf hm (g := g) (w := w) (by omega)).1
      simp only [b1, if_neg one0]
      rw [lit 0, lit 1, lit 2, lit 3]
      refine Or.inr ⟨?_, ?_, ?_⟩
      · rintro (q | ⟨q0, q1, q2, q3⟩)
        · exact n10 q
        · rcases (show j = 0 ∨ j = 1 ∨ j = 2 ∨ j = 3 by omega) with rfl | rfl | rfl | rfl
          · exact q0 rfl
          · exact q1 rfl
          · exact q2 rfl
          · exact q3 rfl
      · split <;> rfl
      · rcases (show j = 0 ∨ j = 1 ∨ j = 2 ∨ j = 3 by omega) with rfl | rfl | rfl | rfl
        · rw [if_pos rfl, if_neg (nI_ne (a := 0) (b := 3) (by omega) (by omega) (by omega)), e0]; exact (mg 0 (by omega)).symm
        · rw [if_neg n10, if_pos rfl, if_neg (nI_ne (a := 1) (b := 3) (by omega) (by omega) (by omega)), e1]; exact (mg 1 (by omega)).symm
        · rw [if_neg (nI_ne (a := 2) (b := 0) (by omega) (by omega) (by omega)), if_neg (nI_ne (a := 2) (b := 1) (by omega) (by omega) (by omega)), if_pos rfl, if_neg (nI_ne (a := 2) (b := 3) (by omega) (by omega) (by omega)), e2]; exact (mg 2 (by omega)).symm
        · rw [if_neg (nI_ne (a := 3) (b := 0) (by omega) (by omega) (by omega)), if_neg (nI_ne (a := 3) (b := 1) (by omega) (by omega) (by omega)), if_neg (nI_ne (a := 3) (b := 2) (by omega) (by omega) (by omega)), if_pos rfl, if_pos rfl, ep]; exact mp.symm
end QUERY
