/-! PURE, 26: acts: put, by, claim, order -/
theorem rowok_be {R R' : Nat → Nat} (hR : RowOk R) (h : BEq R R') (h2 : R' 2 ≤ 3 ∧ R' 3 ≤ 99) (h3 : ∀ g : Nat, g < 8 → R' (136 + 4 * g) ≤ 8 ∧ (R 1 ≤ g → R' (136 + 4 * g) = 0)) (h4 : ∀ q : Nat, q < 8 → R' (165 + 2 * q) < R 0 ∧ R' (166 + 2 * q) ≤ 99) : RowOk R' := by
  have e0 := be_0 h
  have e1 := be_1 h
  obtain ⟨k1, k2, k3, k4, k5, k6, k7⟩ := hR
  have ec : ∀ i : Nat, 4 ≤ i → i < 133 → R' i = R i := fun i h1 h2 => (be_i h h1 h2).symm
  refine ⟨?_, ?_, ?_, ?_, ?_, ?_, ?_⟩
  · rw [← e0, ← e1]; exact ⟨k1.1, k1.2.1, k1.2.2.1, h2⟩
  · intro c hc
    rw [ec (4 + 43 * c) (by omega) (by omega), ec (5 + 43 * c) (by omega) (by omega), ec (6 + 43 * c) (by omega) (by omega), ec (7 + 43 * c) (by omega) (by omega), ec (8 + 43 * c) (by omega) (by omega), ec (9 + 43 * c) (by omega) (by omega), ec (10 + 43 * c) (by omega) (by omega), ec (31 + 43 * c) (by omega) (by omega)]
    exact k2 c (by omega)
  · intro c k hc hk
    rw [ec (10 + 43 * c) (by omega) (by omega)] at hk
    have hb := (k2 c (by omega)).2.2.2.2.2.2.1.2
    rw [ec (11 + 43 * c + 4 * k) (by omega) (by omega)]
    refine ⟨(k3 c k (by omega) hk).1, fun z hz => ?_⟩
    rw [ec _ (by omega) (by omega)]
    exact (k3 c k (by omega) hk).2 z hz
  · intro c k hc hk
    rw [ec (31 + 43 * c) (by omega) (by omega)] at hk
    have hb := (k2 c (by omega)).2.2.2.2.2.2.2.2
    rw [ec (32 + 43 * c + 5 * k) (by omega) (by omega)]
    refine ⟨(k4 c k (by omega) hk).1, fun z hz => ?_⟩
    rw [ec _ (by omega) (by omega)]
    exact (k4 c k (by omega) hk).2 z hz
  · intro g hg
    have a0 := be_g h (g := g) (w := 0) (by omega) (by omega)
    have a1 := be_g h (g := g) (w := 1) (by omega) (by omega)
    have a2 := be_g h (g := g) (w := 2) (by omega) (by omega)
    rw [Nat.add_zero] at a0
    rw [show 133 + 4 * g + 1 = 134 + 4 * g by omega] at a1
    rw [show 133 + 4 * g + 2 = 135 + 4 * g by omega] at a2
    rw [← a0, ← a1, ← a2]
    exact k5 g (by omega)
  · intro g hg
    exact ⟨(h3 g hg).1, fun h5 => (h3 g hg).2 (by omega)⟩
  · intro q hq
    rw [← e0]; exact h4 q hq
def updN (R : Nat → Nat) (i v : Nat) : Nat → Nat := fun j => if j = i then v else R j
theorem updN_eq {R : Nat → Nat} {i v : Nat} : updN R i v i = v := if_pos rfl
theorem updN_ne {R : Nat → Nat} {i v j : Nat} (h : j ≠ i) : updN R i v j = R j := if_neg h
theorem upd_eq {f : Nat → Int32} {i : Nat} {x : Int32} : upd f i x i = x := if_pos rfl
theorem upd_ne {f : Nat → Int32} {i : Nat} {x : Int32} {j : Nat} (h : j ≠ i) : upd f i x j = f j := if_neg h
theorem rowm_upd {R : Nat → Nat} {mN : Nat → Int32} (h : RowM R mN) (i v : Nat) : RowM (updN R i v) (upd mN i (nI v)) := by
  intro j hj
  by_cases h1 : j = i
  · subst h1; rw [updN_eq, upd_eq]
  · rw [updN_ne h1, upd_ne h1]; exact h j hj
theorem be_upd {R : Nat → Nat} {i v : Nat} (hi : i = 2 ∨ i = 3 ∨ (∃ g : Nat, g < 8 ∧ i = 136 + 4 * g) ∨ 165 ≤ i) : BEq R (updN R i v) := by
  intro j h1 h2 h3 h4
  refine (updN_ne ?_).symm
  intro e
  rcases hi with e1 | e1 | ⟨g, hg, e1⟩ | e1
  · omega
  · omega
  · exact h3 g hg (by omega)
  · omega
section ACTS
variable {R : Nat → Nat} {bA bB bZ bG bP bQ rK rL rG pS pE mN mS : Nat → Int32} {bC bM pN pK mV : Int32}
/-- the row, the plan with one number changed -/
theorem row_car (hR : RowOk R) {q c : Nat} (hq : q < 8) (hc : c < R 0) : RowOk (updN R (165 + 2 * q) c) := by
  have h0 := hR.1
  refine rowok_be hR (be_upd (Or.inr (Or.inr (Or.inr (by omega))))) ?_ ?_ ?_
  · rw [updN_ne (by omega), updN_ne (by omega)]; omega
  · intro g hg; rw [updN_ne (by omega)]; exact hR.2.2.2.2.2.1 g hg
  · intro q' hq'
    rw [updN_ne (show 166 + 2 * q' ≠ 165 + 2 * q by omega)]
    refine ⟨?_, (hR.2.2.2.2.2.2 q' hq').2⟩
    by_cases h : q' = q
    · subst h; rw [updN_eq]; exact hc
    · rw [updN_ne (by omega)]; exact (hR.2.2.2.2.2.2 q' hq').1
theorem plan_car (hl : PlanOf R pS) {q c : Nat} (hq : q < 8) : PlanOf (updN R (165 + 2 * q) c) (upd pS (8 + q) (nI c)) := by
  obtain ⟨h1, h2, h3, h4⟩ := hl
  refine ⟨fun g hg => ?_, fun q' hq' => ?_, ?_, ?_⟩
  · rw [upd_ne (by omega), updN_ne (by omega)]; exact h1 g hg
  · rw [upd_ne (show 16 + q' ≠ 8 + q by omega), updN_ne (show 166 + 2 * q' ≠ 165 + 2 * q by omega)]
    refine ⟨?_, (h2 q' hq').2⟩
    by_cases h : q' = q
    · subst h; rw [upd_eq, updN_eq]
    · rw [upd_ne (by omega), updN_ne (by omega)]; exact (h2 q' hq').1
  · rw [upd_ne (by omega), updN_ne (by omega)]; exact h3
  · rw [upd_ne (by omega), updN_ne (by omega)]; exact h4
theorem row_clm (hR : RowOk R) {q c : Nat} (hq : q < 8) (hc : c ≤ 99) : RowOk (updN R (166 + 2 * q) c) := by
  have h0 := hR.1
  refine rowok_be hR (be_upd (Or.inr (Or.inr (Or.inr (by omega))))) ?_ ?_ ?_
  · rw [updN_ne (by omega), updN_ne (by omega)]; omega
  · intro g hg; rw [updN_ne (by omega)]; exact hR.2.2.2.2.2.1 g hg
  · intro q' hq'
    rw [updN_ne (show 165 + 2 * q' ≠ 166 + 2 * q by omega)]
    refine ⟨(hR.2.2.2.2.2.2 q' hq').1, ?_⟩
    by_cases h : q' = q
    · subst h; rw [updN_eq]; exact hc
    · rw [updN_ne (by omega)]; exact (hR.2.2.2.2.2.2 q' hq').2
theorem plan_clm (hl : PlanOf R pS) {q c : Nat} (hq : q < 8) : PlanOf (updN R (166 + 2 * q) c) (upd pS (16 + q) (nI c)) := by
  obtain ⟨h1, h2, h3, h4⟩ := hl
  refine ⟨fun g hg => ?_, fun q' hq' => ?_, ?_, ?_⟩
  · rw [upd_ne (by omega), updN_ne (by omega)]; exact h1 g hg
  · rw [upd_ne (show 8 + q' ≠ 16 + q by omega), updN_ne (show 165 + 2 * q' ≠ 166 + 2 * q by omega)]
    refine ⟨(h2 q' hq').1, ?_⟩
    by_cases h : q' = q
    · subst h; rw [upd_eq, updN_eq]
    · rw [upd_ne (by omega), updN_ne (by omega)]; exact (h2 q' hq').2
  · rw [upd_ne (by omega), updN_ne (by omega)]; exact h3
  · rw [upd_ne (by omega), updN_ne (by omega)]; exact h4
theorem row_put (hR : RowOk R) {g w : Nat} (hg : g < R 1) (hw : w ≤ 8) : RowOk (updN R (136 + 4 * g) w) := by
  have h0 := hR.1
  refine rowok_be hR (be_upd (Or.inr (Or.inr (Or.inl ⟨g, by omega, rfl⟩)))) ?_ ?_ ?_
  · rw [updN_ne (by omega), updN_ne (by omega)]; omega
  · intro g' hg'
    by_cases h : g' = g
    · subst h; rw [updN_eq]; exact ⟨hw, fun h => by omega⟩
    · rw [updN_ne (by omega)]; exact hR.2.2.2.2.2.1 g' hg'
  · intro q hq; rw [updN_ne (by omega), updN_ne (by omega)]; exact hR.2.2.2.2.2.2 q hq
theorem plan_put (hl : PlanOf R pS) {g w : Nat} (hg : g < 8) : PlanOf (updN R (136 + 4 * g) w) (upd pS g (nI w - nI 1)) := by
  obtain ⟨h1, h2, h3, h4⟩ := hl
  refine ⟨fun g' hg' => ?_, fun q' hq' => ?_, ?_, ?_⟩
  · by_cases h : g' = g
    · subst h; rw [upd_eq, updN_eq]
    · rw [upd_ne (by omega), updN_ne (by omega)]; exact h1 g' hg'
  · rw [upd_ne (by omega), upd_ne (by omega), updN_ne (by omega), updN_ne (by omega)]; exact h2 q' hq'
  · rw [upd_ne (by omega), updN_ne (by omega)]; exact h3
  · rw [upd_ne (by omega), updN_ne (by omega)]; exact h4
theorem row_ord (hR : RowOk R) {pl dy : Nat} (hp : pl ≤ 3) (hd : dy ≤ 99) : RowOk (updN (updN R 2 pl) 3 dy) ∧ BEq R (updN (updN R 2 pl) 3 dy) := by
  have hb : BEq R (updN (updN R 2 pl) 3 dy) := BEq_trans (be_upd (Or.inl rfl)) (be_upd (Or.inr (Or.inl rfl)))
  refine ⟨rowok_be hR hb ?_ ?_ ?_, hb⟩
  · rw [updN_eq, updN_ne (by omega), updN_eq]; exact ⟨hp, hd⟩
  · intro g hg; rw [updN_ne (by omega), updN_ne (by omega)]; exact hR.2.2.2.2.2.1 g hg
  · intro q hq; rw [updN_ne (by omega), updN_ne (by omega), updN_ne (by omega), updN_ne (by omega)]; exact hR.2.2.2.2.2.2 q hq
theorem plan_ord (hl : PlanOf R pS) {pl dy : Nat} : PlanOf (updN (updN R 2 pl) 3 dy) (upd (upd pS 24 (nI pl)) 25 (nI dy)) := by
  obtain ⟨h1, h2, h3, h4⟩ := hl
  refine ⟨fun g' hg' => ?_, fun q' hq' => ?_, ?_, ?_⟩
  · rw [upd_ne (by omega), upd_ne (by omega), updN_ne (by omega), updN_ne (by omega)]; exact h1 g' hg'
  · rw [upd_ne (by omega), upd_ne (by omega), upd_ne (by omega), upd_ne (by omega), updN_ne (by omega), updN_ne (by omega), updN_ne (by omega), updN_ne (by omega)]; exact h2 q' hq'
  · rw [upd_ne (by omega), upd_eq, updN_ne (by omega), updN_eq]
  · rw [upd_eq, updN_eq]
theorem t_by (hR : RowOk R) (hC : bC = nI (R 0)) (hl : PlanOf R pS) (hm : RowM R mN) (hr : RingOk R pE mS pN pK mV) (x y : Int32) :
    (f_X6_by x y pS pE pN pK bC).1 = (f_X7_by x y mN mS mV).1 ∧ k_X6_by x y pS pE pN bC ∧ k_X7_by x y mN mS mV ∧ ∃ R' : Nat → Nat, BEq R R' ∧ RowOk R' ∧ RowM R' (f_X7_by x y mN mS mV).2.1 ∧ PlanOf R' (f_X6_by x y pS pE pN pK bC).2.1 ∧
      RingOk R' (f_X6_by x y pS pE pN pK bC).2.2.1 (f_X7_by x y mN mS mV).2.2.1 (f_X6_by x y pS pE pN pK bC).2.2.2.1 (f_X6_by x y pS pE pN pK bC).2.2.2.2 (f_X7_by x y mN mS mV).2.2.2.2 := by
  subst hC
  have k0 : k_X7_isParcel x := ⟨isIn01 _ _ _, trivial⟩
  have k1 : k_X7_isCarrier y mN := ⟨isIn01 _ _ _, trivial⟩
  obtain ⟨s1, s2, s3⟩ := ring_keep hR hm hl hr
  rw [f_X6_by, f_X7_by, k_X6_by, k_X7_by]
  rcases isParcel_of x with ⟨a1, a2⟩ | ⟨q, hq, rfl, a1, a2⟩
  · simp only [a1, a2, if_true]
    exact ⟨trivial, trivial, ⟨k0, trivial⟩, R, fun _ _ _ _ _ => rfl, hR, hm, hl, hr⟩
  · rcases car_of hR hm y with ⟨b1, b2⟩ | ⟨c, hc, rfl, b1, b2⟩
    · simp only [a1, a2, b1, b2, if_neg one0, if_true]
      exact ⟨trivial, trivial, ⟨k0, k1, trivial⟩, R, fun _ _ _ _ _ => rfl, hR, hm, hl, hr⟩
    · have w0 : (165 + (2 * nI q)) + 0 = nI (165 + 2 * q) := by rw [lit 165, lit 2, lit 0, nI_mul, nI_add, nI_add]; rfl
      have v0 : vp_in (nI (165 + 2 * q)) 181 := vp_in_nI (by omega) (by omega)
      have e1 : f_X1_setCarrier (nI q) (nI c) pS = upd pS (8 + q) (nI c) := by rw [f_X1_setCarrier, lit 8, nI_add, st_in (by omega) (by omega)]
      simp only [a1, a2, b1, b2, if_neg one0, w0, e1, p_carrierOf hl hq]
      rw [m_at hm (by omega), cl (show 165 + 2 * q < 2 ^ 31 by omega)]
      refine ⟨rfl, ⟨s1, trivial⟩, ⟨k0, k1, s2, v0, v0, trivial⟩, updN R (165 + 2 * q) c, be_upd (Or.inr (Or.inr (Or.inr (by omega)))), row_car hR hq hc, rowm_upd hm _ _, plan_car hl hq, ?_⟩
      exact ring_be (be_upd (Or.inr (Or.inr (Or.inr (by omega))))) s3
theorem t_claim (hR : RowOk R) (hl : PlanOf R pS) (hm : RowM R mN) (hr : RingOk R pE mS pN pK mV) (x y : Int32) :
    (f_X6_claim x y pS pE pN pK).1 = (f_X7_claim x y mN mS mV).1 ∧ k_X6_claim x y pS pE pN ∧ k_X7_claim x y mN mS mV ∧ ∃ R' : Nat → Nat, BEq R R' ∧ RowOk R' ∧ RowM R' (f_X7_claim x y mN mS mV).2.1 ∧ PlanOf R' (f_X6_claim x y pS pE pN pK).2.1 ∧
      RingOk R' (f_X6_claim x y pS pE pN pK).2.2.1 (f_X7_claim x y mN mS mV).2.2.1 (f_X6_claim x y pS pE pN pK).2.2.2.1 (f_X6_claim x y pS pE pN pK).2.2.2.2 (f_X7_claim x y mN mS mV).2.2.2.2 := by
  have h4 : 2 ^ R 1 ≤ 2 ^ 8 := Nat.pow_le_pow_right (by omega) hR.1.2.2.1
  have k0 : k_X7_isParcel x := ⟨isIn01 _ _ _, trivial⟩
  obtain ⟨s1, s2, s3⟩ := ring_keep hR hm hl hr
  have hsame : ∃ R' : Nat → Nat, BEq R R' ∧ RowOk R' ∧ RowM R' mN ∧ PlanOf R' pS ∧ RingOk R' pE mS pN pK mV := ⟨R, fun _ _ _ _ _ => rfl, hR, hm, hl, hr⟩
  rw [f_X6_claim, f_X7_claim, k_X6_claim, k_X7_claim, f_X7_isIn]
  rcases isParcel_of x with ⟨a1, a2⟩ | ⟨q, hq, rfl, a1, a2⟩
  · simp only [a1, a2, if_true]
    exact ⟨trivial, trivial, ⟨k0, trivial⟩, hsame⟩
  · by_cases c1 : y < 0
    · simp only [a1, a2, if_neg one0, if_pos c1, if_true]
      exact ⟨trivial, trivial, ⟨k0, trivial⟩, hsame⟩
    · by_cases c2 : 99 < y
      · simp only [a1, a2, if_neg one0, if_neg c1, if_pos c2, if_true]
        exact ⟨trivial, trivial, ⟨k0, trivial⟩, hsame⟩
      · obtain ⟨j, hj, rfl⟩ := nI_of c1
        have hj9 : j ≤ 99 := by
          rcases Nat.lt_or_ge 99 j with h | h
          · exact absurd (nI_lt h hj) c2
          · exact h
        obtain ⟨i1, i2⟩ := c_inP hR hl hq
        obtain ⟨j1, j2⟩ := m_inP hR hm hq
        have hi := inP_lt (R := R) q
        simp only [a1, a2, if_neg one0, if_neg c1, if_neg c2, i1, j1]
        by_cases h1 : inP R q = 0
        · have g1 : nI (inP R q) = 0 := by rw [h1]; rfl
          simp only [if_pos g1]
          exact ⟨trivial, ⟨i2, trivial⟩, ⟨k0, j2, trivial⟩, hsame⟩
        · have g1 : ¬ nI (inP R q) = 0 := nI_ne0 (by omega) (by omega)
          have w0 : (165 + (2 * nI q)) + 1 = nI (166 + 2 * q) := by rw [lit 165, lit 2, lit 1, nI_mul, nI_add, nI_add]; congr 1; omega
          have v0 : vp_in (nI (166 + 2 * q)) 181 := vp_in_nI (by omega) (by omega)
          have e1 : f_X1_setClaimed (nI q) (nI j) pS = upd pS (16 + q) (nI j) := by rw [f_X1_setClaimed, lit 16, nI_add, st_in (by omega) (by omega)]
          simp only [if_neg g1, w0, e1, p_claimedOf hl hq]
          rw [m_at hm (by omega), cl (show 166 + 2 * q < 2 ^ 31 by omega)]
          refine ⟨rfl, ⟨i2, s1, trivial⟩, ⟨k0, j2, s2, v0, v0, trivial⟩, updN R (166 + 2 * q) j, be_upd (Or.inr (Or.inr (Or.inr (by omega)))), row_clm hR hq hj9, rowm_upd hm _ _, plan_clm hl hq, ?_⟩
          exact ring_be (be_upd (Or.inr (Or.inr (Or.inr (by omega))))) s3
theorem t_order (hR : RowOk R) (hl : PlanOf R pS) (hm : RowM R mN) (hr : RingOk R pE mS pN pK mV) (x y : Int32) :
    (f_X6_order x y pS pE pN pK).1 = (f_X7_order x y mN mS mV).1 ∧ k_X6_order x y pS pE pN ∧ k_X7_order x y mN mS mV ∧ ∃ R' : Nat → Nat, BEq R R' ∧ RowOk R' ∧ RowM R' (f_X7_order x y mN mS mV).2.1 ∧ PlanOf R' (f_X6_order x y pS pE pN pK).2.1 ∧
      RingOk R' (f_X6_order x y pS pE pN pK).2.2.1 (f_X7_order x y mN mS mV).2.2.1 (f_X6_order x y pS pE pN pK).2.2.2.1 (f_X6_order x y pS pE pN pK).2.2.2.2 (f_X7_order x y mN mS mV).2.2.2.2 := by
  obtain ⟨s1, s2, s3⟩ := ring_keep hR hm hl hr
  rw [f_X6_order, f_X7_order, k_X6_order, k_X7_order]
  rcases order_of x y with ⟨a1, a2⟩ | ⟨pl, dy, h1, h2, rfl, rfl, a1, a2⟩
  · simp only [a1, a2, if_true]
    exact ⟨trivial, trivial, trivial, R, fun _ _ _ _ _ => rfl, hR, hm, hl, hr⟩
  · obtain ⟨r1, r2⟩ := row_ord hR h1 h2
    simp only [a1, a2, if_neg one0]
    refine ⟨trivial, ⟨s1, trivial⟩, ⟨s2, trivial⟩, updN (updN R 2 pl) 3 dy, r2, r1, ?_, ?_, ring_be r2 s3⟩
    · exact rowm_upd (rowm_upd hm 2 pl) 3 dy
    · exact plan_ord hl
theorem m1s (w : Nat) : (nI w - nI 1) + nI 1 = nI w := Int32.sub_add_cancel _ _
theorem move (hR : RowOk R) (hl : PlanOf R pS) (hm : RowM R mN) {g w : Nat} (hg : g < R 1) (hw : w ≤ 8) :
    k_X1_moveGood (nI g) (nI w - nI 1) pS ∧ ∃ R' : Nat → Nat, BEq R R' ∧ RowOk R' ∧ PlanOf R' (f_X1_moveGood (nI g) (nI w - nI 1) pS) ∧
    ((R (136 + 4 * g) = 0 ∨ inP (updN R (136 + 4 * g) w) (R (136 + 4 * g) - 1) ≠ 0) ∧ R' = updN R (136 + 4 * g) w ∨ (¬ R (136 + 4 * g) = 0 ∧ inP (updN R (136 + 4 * g) w) (R (136 + 4 * g) - 1) = 0) ∧ R' = updN (updN R (136 + 4 * g) w) (166 + 2 * (R (136 + 4 * g) - 1)) 0) := by
  have h0 := hR.1
  have h4 : 2 ^ R 1 ≤ 2 ^ 8 := Nat.pow_le_pow_right (by omega) h0.2.2.1
  have hb := (hR.2.2.2.2.2.1 g (by omega)).1
  have b1 : BEq R (updN R (136 + 4 * g) w) := be_upd (Or.inr (Or.inr (Or.inl ⟨g, by omega, rfl⟩)))
  have r1 := row_put hR hg hw
  have p1 := plan_put hl (g := g) (w := w) (by omega)
  have est : f_X6_store (nI g) (nI w - nI 1) pS 26 = upd pS g (nI w - nI 1) := st_in (by omega) (by omega)
  rw [f_X1_moveGood, k_X1_moveGood, p_parcelOf hl (by omega), est, pm0]
  by_cases h1 : R (136 + 4 * g) = 0
  · have g1 := (pm_eq (a := R (136 + 4 * g)) (q := 0) (by omega) (by omega)).mpr h1
    rw [if_pos g1, if_pos g1]
    exact ⟨trivial, _, b1, r1, p1, Or.inl ⟨Or.inl h1, rfl⟩⟩
  · have g1 : ¬ nI (R (136 + 4 * g)) - nI 1 = nI 0 - nI 1 := fun e => h1 ((pm_eq (by omega) (by omega)).mp e)
    have hq : R (136 + 4 * g) - 1 < 8 := by omega
    obtain ⟨i1, i2⟩ := c_inP r1 p1 hq
    have hi := inP_lt (R := updN R (136 + 4 * g) w) (R (136 + 4 * g) - 1)
    rw [updN_ne (show 1 ≠ 136 + 4 * g by omega)] at hi
    rw [if_neg g1, if_neg g1, nI_sub (show 1 ≤ R (136 + 4 * g) by omega), i1, lit 0]
    by_cases h2 : inP (updN R (136 + 4 * g) w) (R (136 + 4 * g) - 1) = 0
    · have g2 : nI (inP (updN R (136 + 4 * g) w) (R (136 + 4 * g) - 1)) = nI 0 := by rw [h2]
      have e1 : f_X1_setClaimed (nI (R (136 + 4 * g) - 1)) (nI 0) (upd pS g (nI w - nI 1)) = upd (upd pS g (nI w - nI 1)) (16 + (R (136 + 4 * g) - 1)) (nI 0) := by rw [f_X1_setClaimed, lit 16, nI_add, st_in (by omega) (by omega)]
      rw [if_pos g2, e1]
      exact ⟨⟨i2, trivial⟩, _, BEq_trans b1 (be_upd (Or.inr (Or.inr (Or.inr (by omega))))), row_clm r1 hq (by omega), plan_clm p1 hq, Or.inr ⟨⟨h1, h2⟩, rfl⟩⟩
    · have g2 : ¬ nI (inP (updN R (136 + 4 * g) w) (R (136 + 4 * g) - 1)) = nI 0 := nI_ne (by omega) (by omega) h2
      rw [if_neg g2]
      exact ⟨⟨i2, trivial⟩, _, b1, r1, p1, Or.inl ⟨Or.inr h2, rfl⟩⟩
theorem t_put (hR : RowOk R) (hM : bM = nI (R 1)) (hl : PlanOf R pS) (hm : RowM R mN) (hr : RingOk R pE mS pN pK mV) (x y : Int32) :
    (f_X6_put x y pS pE pN pK bM).1 = (f_X7_put x y mN mS mV).1 ∧ k_X6_put x y pS pE pN bM ∧ k_X7_put x y mN mS mV ∧ ∃ R' : Nat → Nat, BEq R R' ∧ RowOk R' ∧ RowM R' (f_X7_put x y mN mS mV).2.1 ∧ PlanOf R' (f_X6_put x y pS pE pN pK bM).2.1 ∧
      RingOk R' (f_X6_put x y pS pE pN pK bM).2.2.1 (f_X7_put x y mN mS mV).2.2.1 (f_X6_put x y pS pE pN pK bM).2.2.2.1 (f_X6_put x y pS pE pN pK bM).2.2.2.2 (f_X7_put x y mN mS mV).2.2.2.2 := by
  subst hM
  have h0 := hR.1
  have h4 : 2 ^ R 1 ≤ 2 ^ 8 := Nat.pow_le_pow_right (by omega) h0.2.2.1
  have k0 : k_X7_isGood x mN := ⟨isIn01 _ _ _, trivial⟩
  have kp : k_X7_isParcel y := ⟨isIn01 _ _ _, trivial⟩
  obtain ⟨s1, s2, s3⟩ := ring_keep hR hm hl hr
  have hsame : ∃ R' : Nat → Nat, BEq R R' ∧ RowOk R' ∧ RowM R' mN ∧ PlanOf R' pS ∧ RingOk R' pE mS pN pK mV := ⟨R, fun _ _ _ _ _ => rfl, hR, hm, hl, hr⟩
  rw [f_X6_put, f_X7_put, k_X6_put, k_X7_put]
  rcases good_of hR hm x with ⟨a1, a2⟩ | ⟨g, hg, rfl, a1, a2⟩
  · simp only [a1, a2, if_true]
    exact ⟨trivial, trivial, ⟨k0, trivial⟩, hsame⟩
  · have hb := (hR.2.2.2.2.2.1 g (by omega)).1
    obtain ⟨mp, mk⟩ := m_parcelOf hm (g := g) (by omega)
    have pp := p_parcelOf hl (g := g) (by omega)
    have w0 : (133 + (4 * nI g)) + 3 = nI (136 + 4 * g) := by rw [lit 133, lit 4, lit 3, nI_mul, nI_add, nI_add]; congr 1; omega
    have vg : vp_in (nI (136 + 4 * g)) 181 := vp_in_nI (by omega) (by omega)
    have c0 : Int32.toNatClampNeg (nI (136 + 4 * g)) = 136 + 4 * g := cl (by omega)
    have key : ∀ w : Nat, w ≤ 8 → y = nI w - nI 1 →
        (if nI (R (136 + 4 * g)) - nI 1 = y then ((-2 : Int32), pS, pE, pN, pK) else (nI (R (136 + 4 * g)) - nI 1, f_X1_moveGood (nI g) y pS, (f_X1_keep pS pE pN pK).1, (f_X1_keep pS pE pN pK).2.1, (f_X1_keep pS pE pN pK).2.2)).1 = (if nI (R (136 + 4 * g)) - nI 1 = y then ((-2 : Int32), mN, mS, (0 : Int32), mV) else (if nI (R (136 + 4 * g)) - nI 1 = -1 then (nI (R (136 + 4 * g)) - nI 1, upd mN (136 + 4 * g) (y + 1), (f_X7_snap mN mS mV).1, 0, (f_X7_snap mN mS mV).2) else (if f_X7_inParcel (nI (R (136 + 4 * g)) - nI 1) (upd mN (136 + 4 * g) (y + 1)) = 0 then (nI (R (136 + 4 * g)) - nI 1, upd (upd mN (136 + 4 * g) (y + 1)) (Int32.toNatClampNeg ((165 + (2 * (nI (R (136 + 4 * g)) - nI 1))) + 1)) 0, (f_X7_snap mN mS mV).1, 0, (f_X7_snap mN mS mV).2) else (nI (R (136 + 4 * g)) - nI 1, upd mN (136 + 4 * g) (y + 1), (f_X7_snap mN mS mV).1, 0, (f_X7_snap mN mS mV).2)))).1 ∧
        (if nI (R (136 + 4 * g)) - nI 1 = y then True else (k_X1_keep pS pE pN ∧ (k_X1_moveGood (nI g) y pS ∧ True))) ∧
        (if nI (R (136 + 4 * g)) - nI 1 = y then True else (k_X7_snap mN mS mV ∧ (vp_in (nI (136 + 4 * g)) 181 ∧ (if nI (R (136 + 4 * g)) - nI 1 = -1 then True else (k_X7_inParcel (nI (R (136 + 4 * g)) - nI 1) (upd mN (136 + 4 * g) (y + 1)) ∧ (if f_X7_inParcel (nI (R (136 + 4 * g)) - nI 1) (upd mN (136 + 4 * g) (y + 1)) = 0 then (vp_in ((165 + (2 * (nI (R (136 + 4 * g)) - nI 1))) + 1) 181 ∧ True) else True)))))) ∧
        ∃ R' : Nat → Nat, BEq R R' ∧ RowOk R' ∧ RowM R' (if nI (R (136 + 4 * g)) - nI 1 = y then ((-2 : Int32), mN, mS, (0 : Int32), mV) else (if nI (R (136 + 4 * g)) - nI 1 = -1 then (nI (R (136 + 4 * g)) - nI 1, upd mN (136 + 4 * g) (y + 1), (f_X7_snap mN mS mV).1, 0, (f_X7_snap mN mS mV).2) else (if f_X7_inParcel (nI (R (136 + 4 * g)) - nI 1) (upd mN (136 + 4 * g) (y + 1)) = 0 then (nI (R (136 + 4 * g)) - nI 1, upd (upd mN (136 + 4 * g) (y + 1)) (Int32.toNatClampNeg ((165 + (2 * (nI (R (136 + 4 * g)) - nI 1))) + 1)) 0, (f_X7_snap mN mS mV).1, 0, (f_X7_snap mN mS mV).2) else (nI (R (136 + 4 * g)) - nI 1, upd mN (136 + 4 * g) (y + 1), (f_X7_snap mN mS mV).1, 0, (f_X7_snap mN mS mV).2)))).2.1 ∧ PlanOf R' (if nI (R (136 + 4 * g)) - nI 1 = y then ((-2 : Int32), pS, pE, pN, pK) else (nI (R (136 + 4 * g)) - nI 1, f_X1_moveGood (nI g) y pS, (f_X1_keep pS pE pN pK).1, (f_X1_keep pS pE pN pK).2.1, (f_X1_keep pS pE pN pK).2.2)).2.1 ∧
          RingOk R' (if nI (R (136 + 4 * g)) - nI 1 = y then ((-2 : Int32), pS, pE, pN, pK) else (nI (R (136 + 4 * g)) - nI 1, f_X1_moveGood (nI g) y pS, (f_X1_keep pS pE pN pK).1, (f_X1_keep pS pE pN pK).2.1, (f_X1_keep pS pE pN pK).2.2)).2.2.1 (if nI (R (136 + 4 * g)) - nI 1 = y then ((-2 : Int32), mN, mS, (0 : Int32), mV) else (if nI (R (136 + 4 * g)) - nI 1 = -1 then (nI (R (136 + 4 * g)) - nI 1, upd mN (136 + 4 * g) (y + 1), (f_X7_snap mN mS mV).1, 0, (f_X7_snap mN mS mV).2) else (if f_X7_inParcel (nI (R (136 + 4 * g)) - nI 1) (upd mN (136 + 4 * g) (y + 1)) = 0 then (nI (R (136 + 4 * g)) - nI 1, upd (upd mN (136 + 4 * g) (y + 1)) (Int32.toNatClampNeg ((165 + (2 * (nI (R (136 + 4 * g)) - nI 1))) + 1)) 0, (f_X7_snap mN mS mV).1, 0, (f_X7_snap mN mS mV).2) else (nI (R (136 + 4 * g)) - nI 1, upd mN (136 + 4 * g) (y + 1), (f_X7_snap mN mS mV).1, 0, (f_X7_snap mN mS mV).2)))).2.2.1 (if nI (R (136 + 4 * g)) - nI 1 = y then ((-2 : Int32), pS, pE, pN, pK) else (nI (R (136 + 4 * g)) - nI 1, f_X1_moveGood (nI g) y pS, (f_X1_keep pS pE pN pK).1, (f_X1_keep pS pE pN pK).2.1, (f_X1_keep pS pE pN pK).2.2)).2.2.2.1 (if nI (R (136 + 4 * g)) - nI 1 = y then ((-2 : Int32), pS, pE, pN, pK) else (nI (R (136 + 4 * g)) - nI 1, f_X1_moveGood (nI g) y pS, (f_X1_keep pS pE pN pK).1, (f_X1_keep pS pE pN pK).2.1, (f_X1_keep pS pE pN pK).2.2)).2.2.2.2 (if nI (R (136 + 4 * g)) - nI 1 = y then ((-2 : Int32), mN, mS, (0 : Int32), mV) else (if nI (R (136 + 4 * g)) - nI 1 = -1 then (nI (R (136 + 4 * g)) - nI 1, upd mN (136 + 4 * g) (y + 1), (f_X7_snap mN mS mV).1, 0, (f_X7_snap mN mS mV).2) else (if f_X7_inParcel (nI (R (136 + 4 * g)) - nI 1) (upd mN (136 + 4 * g) (y + 1)) = 0 then (nI (R (136 + 4 * g)) - nI 1, upd (upd mN (136 + 4 * g) (y + 1)) (Int32.toNatClampNeg ((165 + (2 * (nI (R (136 + 4 * g)) - nI 1))) + 1)) 0, (f_X7_snap mN mS mV).1, 0, (f_X7_snap mN mS mV).2) else (nI (R (136 + 4 * g)) - nI 1, upd mN (136 + 4 * g) (y + 1), (f_X7_snap mN mS mV).1, 0, (f_X7_snap mN mS mV).2)))).2.2.2.2 := by
      intro w hw ey
      subst ey
      by_cases h1 : R (136 + 4 * g) = w
      · have g1 := (pm_eq (a := R (136 + 4 * g)) (q := w) (by omega) (by omega)).mpr h1
        simp only [if_pos g1]
        exact ⟨trivial, trivial, trivial, hsame⟩
      · have g1 : ¬ nI (R (136 + 4 * g)) - nI 1 = nI w - nI 1 := fun e => h1 ((pm_eq (by omega) (by omega)).mp e)
        have ew : (nI w - nI 1) + 1 = nI w := m1s w
        obtain ⟨mv, R', v1, v2, v3, v4⟩ := move hR hl hm hg hw
        have r1 := row_put hR hg hw
        have m1 := rowm_upd hm (136 + 4 * g) w
        simp only [if_neg g1, ew]
        by_cases h2 : R (136 + 4 * g) = 0
        · have g2 : nI (R (136 + 4 * g)) - nI 1 = -1 := by rw [h2]; exact pm0.symm
          simp only [if_pos g2]
          have eR : R' = updN R (136 + 4 * g) w := by
            rcases v4 with ⟨_, e⟩ | ⟨⟨e, _⟩, _⟩
            · exact e
            · exact absurd h2 e
          subst eR
          exact ⟨trivial, ⟨s1, mv, trivial⟩, ⟨s2, vg, trivial⟩, _, v1, v2, m1, v3, ring_be v1 s3⟩
        · have g2 : ¬ nI (R (136 + 4 * g)) - nI 1 = -1 := by rw [pm0]; exact fun e => h2 ((pm_eq (by omega) (by omega)).mp e)
          have hq : R (136 + 4 * g) - 1 < 8 := by omega
          have es : nI (R (136 + 4 * g)) - nI 1 = nI (R (136 + 4 * g) - 1) := nI_sub (by omega)
          obtain ⟨i1, i2⟩ := m_inP r1 m1 hq
          have hi := inP_lt (R := updN R (136 + 4 * g) w) (R (136 + 4 * g) - 1)
          rw [updN_ne (show 1 ≠ 136 + 4 * g by omega)] at hi
          simp only [if_neg g2]
          rw [es, i1]
          by_cases h3 : inP (updN R (136 + 4 * g) w) (R (136 + 4 * g) - 1) = 0
          · have g3 : nI (inP (updN R (136 + 4 * g) w) (R (136 + 4 * g) - 1)) = 0 := by rw [h3]; rfl
            have eR : R' = updN (updN R (136 + 4 * g) w) (166 + 2 * (R (136 + 4 * g) - 1)) 0 := by
              rcases v4 with ⟨e | e, _⟩ | ⟨_, e⟩
              · exact absurd e h2
              · exact absurd h3 e
              · exact e
            have w1 : (165 + (2 * nI (R (136 + 4 * g) - 1))) + 1 = nI (166 + 2 * (R (136 + 4 * g) - 1)) := by rw [lit 165, lit 2, lit 1, nI_mul, nI_add, nI_add]; congr 1; omega
            have v0 : vp_in (nI (166 + 2 * (R (136 + 4 * g) - 1))) 181 := vp_in_nI (by omega) (by omega)
            have c1 : Int32.toNatClampNeg (nI (166 + 2 * (R (136 + 4 * g) - 1))) = 166 + 2 * (R (136 + 4 * g) - 1) := cl (by omega)
            simp only [if_pos g3, w1, c1]
            subst eR
            exact ⟨trivial, ⟨s1, mv, trivial⟩, ⟨s2, vg, i2, v0, trivial⟩, _, v1, v2, rowm_upd m1 _ 0, v3, ring_be v1 s3⟩
          · have g3 : ¬ nI (inP (updN R (136 + 4 * g) w) (R (136 + 4 * g) - 1)) = 0 := nI_ne0 (by omega) (by omega)
            have eR : R' = updN R (136 + 4 * g) w := by
              rcases v4 with ⟨_, e⟩ | ⟨⟨_, e⟩, _⟩
              · exact e
              · exact absurd e h3
            simp only [if_neg g3]
            subst eR
            exact ⟨trivial, ⟨s1, mv, trivial⟩, ⟨s2, vg, i2, trivial⟩, _, v1, v2, m1, v3, ring_be v1 s3⟩
    simp only [a1, a2, if_neg one0, pp, mp, w0, c0]
    by_cases c1 : y = -1
    · obtain ⟨t1, t2, t3, t4⟩ := key 0 (by omega) (by rw [c1]; exact pm0)
      simp only [if_pos c1]
      exact ⟨t1, t2, ⟨k0, mk, t3⟩, t4⟩
    · rcases isParcel_of y with ⟨b1, b2⟩ | ⟨q, hq, e, b1, b2⟩
      · simp only [if_neg c1, b1, b2, if_true]
        exact ⟨trivial, trivial, ⟨k0, kp, trivial⟩, hsame⟩
      · obtain ⟨t1, t2, t3, t4⟩ := key (q + 1) (by omega) (by rw [e]; exact pm1 q)
        simp only [if_neg c1, b1, b2, if_neg one0]
        exact ⟨t1, t2, ⟨k0, kp, mk, t3⟩, t4⟩
end ACTS
