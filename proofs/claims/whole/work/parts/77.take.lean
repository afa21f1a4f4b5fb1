/-! PURE, 28: take -/
theorem c_unpL2 : ∀ (n k : Nat) (w : Nat → Int32), 8 < k + n → k ≤ 8 → k_X1_unpack_L2 n (nI k) w ∧ ∀ j : Nat, (f_X1_unpack_L2 n (nI k) w).2 j = if k ≤ j ∧ j < 8 then nI 0 - nI 1 else w j := by
  intro n
  induction n with
  | zero => intro k w h1 h2; omega
  | succ n ih =>
    intro k w h1 h2
    rw [f_X1_unpack_L2, k_X1_unpack_L2, lit 8, pm0]
    by_cases h3 : k = 8
    · have g3 : nI 8 ≤ nI k := nI_le (by omega) (by omega)
      rw [if_pos g3, if_pos g3]
      exact ⟨trivial, fun j => by rw [if_neg (by omega)]⟩
    · have g3 : ¬ nI 8 ≤ nI k := nI_ge (by omega) (by omega)
      rw [if_neg g3, if_neg g3, cl (show k < 2 ^ 31 by omega), nI_1]
      obtain ⟨r1, r2⟩ := ih (k + 1) (upd w k (nI 0 - nI 1)) (by omega) (by omega)
      refine ⟨⟨vp_in_nI (by omega) (by omega), r1⟩, fun j => ?_⟩
      rw [r2 j]
      by_cases h4 : j = k
      · subst h4; rw [if_neg (by omega), if_pos (by omega), upd_eq]
      · rw [upd_ne h4]
        by_cases h5 : k + 1 ≤ j ∧ j < 8
        · rw [if_pos h5, if_pos (by omega)]
        · rw [if_neg h5, if_neg (by omega)]
theorem c_unpL23 : ∀ (n k : Nat) (w : Nat → Int32), 8 < k + n → k ≤ 8 → k_X1_unpack_L23 n (nI k) w ∧ ∀ j : Nat, (f_X1_unpack_L23 n (nI k) w).2 j = if (8 + k ≤ j ∧ j < 16) ∨ (16 + k ≤ j ∧ j < 24) then nI 0 else w j := by
  intro n
  induction n with
  | zero => intro k w h1 h2; omega
  | succ n ih =>
    intro k w h1 h2
    rw [f_X1_unpack_L23, k_X1_unpack_L23, lit 8]
    by_cases h3 : k = 8
    · have g3 : nI 8 ≤ nI k := nI_le (by omega) (by omega)
      rw [if_pos g3, if_pos g3]
      exact ⟨trivial, fun j => by rw [if_neg (by omega)]⟩
    · have g3 : ¬ nI 8 ≤ nI k := nI_ge (by omega) (by omega)
      have e1 : f_X1_setClaimed (nI k) 0 (f_X1_setCarrier (nI k) 0 w) = upd (upd w (8 + k) (nI 0)) (16 + k) (nI 0) := by
        rw [f_X1_setClaimed, f_X1_setCarrier, lit 8, lit 16, lit 0, nI_add, nI_add, st_in (by omega) (by omega), st_in (by omega) (by omega)]
      rw [if_neg g3, if_neg g3, nI_1, e1]
      obtain ⟨r1, r2⟩ := ih (k + 1) (upd (upd w (8 + k) (nI 0)) (16 + k) (nI 0)) (by omega) (by omega)
      refine ⟨r1, fun j => ?_⟩
      rw [r2 j]
      by_cases h4 : j = 16 + k
      · subst h4; rw [if_neg (by omega), if_pos (by omega), upd_eq]
      · rw [upd_ne h4]
        by_cases h6 : j = 8 + k
        · subst h6; rw [if_neg (by omega), if_pos (by omega), upd_eq]
        · rw [upd_ne h6]
          by_cases h5 : (8 + (k + 1) ≤ j ∧ j < 16) ∨ (16 + (k + 1) ≤ j ∧ j < 24)
          · rw [if_pos h5, if_pos (by omega)]
          · rw [if_neg h5, if_neg (by omega)]
theorem c_unpack (pS : Nat → Int32) : k_X1_unpack pS ∧ (∀ j : Nat, j < 8 → f_X1_unpack pS j = nI 0 - nI 1) ∧ (∀ j : Nat, 8 ≤ j → j < 24 → f_X1_unpack pS j = nI 0) ∧ ∀ j : Nat, 24 ≤ j → f_X1_unpack pS j = pS j := by
  obtain ⟨a1, a2⟩ := c_unpL2 FU 0 pS (by have := FU_big (n := 8) (by omega); omega) (by omega)
  obtain ⟨b1, b2⟩ := c_unpL23 FU 0 (f_X1_unpack_L2 FU (nI 0) pS).2 (by have := FU_big (n := 8) (by omega); omega) (by omega)
  refine ⟨⟨a1, b1, trivial⟩, fun j hj => ?_, fun j h1 h2 => ?_, fun j hj => ?_⟩
  · refine (b2 j).trans ?_
    rw [if_neg (by omega), a2 j, if_pos (by omega)]
  · refine (b2 j).trans ?_
    rw [if_pos (by omega)]
  · refine (b2 j).trans ?_
    rw [if_neg (by omega), a2 j, if_neg (by omega)]
/-- the plan taken: the model's row and the class's, good by good -/
def tk0 (R : Nat → Nat) : Nat → Nat := fun i => if 165 ≤ i ∧ i < 181 then 0 else R i
def tkR (R D : Nat → Nat) : Nat → Nat → Nat
  | 0 => tk0 R
  | g + 1 => updN (updN (tkR R D g) (136 + 4 * g) (D g / 3 + 1)) (165 + 2 * (D g / 3)) (D g % 3)
def tu0 (R : Nat → Nat) : Nat → Nat := fun i => if 136 ≤ i ∧ i < 165 then 0 else tk0 R i
def tuR (R D : Nat → Nat) : Nat → Nat → Nat
  | 0 => tu0 R
  | g + 1 => updN (updN (tuR R D g) (136 + 4 * g) (D g / 3 + 1)) (165 + 2 * (D g / 3)) (D g % 3)
theorem tk_tu {R D : Nat → Nat} : ∀ (n i : Nat), (∀ g : Nat, g < 8 → n ≤ g → i ≠ 136 + 4 * g) → (i < 136 ∨ 165 ≤ i ∨ ∃ g : Nat, g < 8 ∧ i = 136 + 4 * g) → tkR R D n i = tuR R D n i := by
  intro n
  induction n with
  | zero =>
    intro i h1 h2
    show tk0 R i = tu0 R i
    rw [tu0]
    rcases h2 with h2 | h2 | ⟨g, h2, h3⟩
    · rw [if_neg (by omega)]
    · rw [if_neg (by omega)]
    · exact absurd h3 (h1 g h2 (by omega))
  | succ n ih =>
    intro i h1 h2
    rw [tkR, tuR]
    by_cases h3 : i = 165 + 2 * (D n / 3)
    · subst h3; rw [updN_eq, updN_eq]
    · rw [updN_ne h3, updN_ne h3]
      by_cases h4 : i = 136 + 4 * n
      · subst h4; rw [updN_eq, updN_eq]
      · rw [updN_ne h4, updN_ne h4]
        refine ih i (fun g hg hn => ?_) h2
        rcases Nat.lt_or_eq_of_le hn with h5 | h5
        · exact h1 g hg h5
        · subst h5; exact h4
theorem tu_none {R D : Nat → Nat} : ∀ (n g : Nat), n ≤ g → g < 8 → (∀ j : Nat, j < n → D j / 3 < 8) → tuR R D n (136 + 4 * g) = 0 := by
  intro n
  induction n with
  | zero => intro g h1 h2 _; show tu0 R _ = 0; rw [tu0, if_pos (by omega)]
  | succ n ih =>
    intro g h1 h2 h3
    rw [tuR, updN_ne (by omega), updN_ne (by omega)]
    exact ih g (by omega) h2 (fun j hj => h3 j (by omega))
theorem tk_lt {R D : Nat → Nat} (hd : ∀ j : Nat, j < 8 → D j / 3 < 8) : ∀ n : Nat, n ≤ 8 → BEq R (tkR R D n) ∧ tkR R D n 2 = R 2 ∧ tkR R D n 3 = R 3 ∧ (∀ q : Nat, q < 8 → tkR R D n (166 + 2 * q) = 0) ∧ (∀ g : Nat, g < 8 → tkR R D n (136 + 4 * g) = if g < n then D g / 3 + 1 else R (136 + 4 * g)) ∧ ∀ q : Nat, q < 8 → tkR R D n (165 + 2 * q) = 0 ∨ ∃ g : Nat, g < n ∧ tkR R D n (165 + 2 * q) = D g % 3 := by
  intro n
  induction n with
  | zero =>
    intro _
    have e : ∀ i : Nat, i < 165 → tkR R D 0 i = R i := fun i hi => if_neg (by omega)
    have e2 : ∀ i : Nat, 165 ≤ i → i < 181 → tkR R D 0 i = 0 := fun i h1 h2 => if_pos ⟨h1, h2⟩
    refine ⟨fun i _ _ _ hi => (e i hi).symm, e 2 (by omega), e 3 (by omega), fun q hq => e2 _ (by omega) (by omega), fun g hg => ?_, fun q hq => Or.inl (e2 _ (by omega) (by omega))⟩
    rw [if_neg (by omega)]; exact e _ (by omega)
  | succ n ih =>
    intro hn
    obtain ⟨h1, h2, h3, h4, h5, h6⟩ := ih (by omega)
    have hd' := hd n (by omega)
    rw [tkR]
    refine ⟨BEq_trans h1 (BEq_trans (be_upd (Or.inr (Or.inr (Or.inl ⟨n, by omega, rfl⟩)))) (be_upd (Or.inr (Or.inr (Or.inr (by omega)))))), ?_, ?_, fun q hq => ?_, fun g hg => ?_, fun q hq => ?_⟩
    · rw [updN_ne (by omega), updN_ne (by omega)]; exact h2
    · rw [updN_ne (by omega), updN_ne (by omega)]; exact h3
    · rw [updN_ne (by omega), updN_ne (by omega)]; exact h4 q hq
    · rw [updN_ne (by omega)]
      by_cases h7 : g = n
      · subst h7; rw [updN_eq, if_pos (by omega)]
      · rw [updN_ne (by omega), h5 g hg]
        by_cases h8 : g < n
        · rw [if_pos h8, if_pos (by omega)]
        · rw [if_neg h8, if_neg (by omega)]
    · by_cases h7 : q = D n / 3
      · subst h7; rw [updN_eq]; exact Or.inr ⟨n, by omega, rfl⟩
      · rw [updN_ne (by omega), updN_ne (by omega)]
        rcases h6 q hq with h8 | ⟨g, h8, h9⟩
        · exact Or.inl h8
        · exact Or.inr ⟨g, by omega, h9⟩
theorem pop_full : ∀ k : Fin 9, popN (2 ^ k.val - 1) 8 = k.val := by decide +kernel
section TAKE
variable {R D : Nat → Nat} {bA bB bZ bG bP bQ rK rL rG pS pE sZ sO sL mN mS mC mH mW mB mX : Nat → Int32} {bC bM pN pK mV : Int32} {sR sW sU : Nat → Int64}
theorem m_clrL : ∀ (n k : Nat) (w : Nat → Int32), 16 < k + n → k ≤ 16 → k_X7_take_L23 n (nI k) w ∧ ∀ j : Nat, (f_X7_take_L23 n (nI k) w).2 j = if 165 + k ≤ j ∧ j < 181 then nI 0 else w j := by
  intro n
  induction n with
  | zero => intro k w h1 h2; omega
  | succ n ih =>
    intro k w h1 h2
    rw [f_X7_take_L23, k_X7_take_L23, lit 16, lit 165, lit 0]
    by_cases h3 : k = 16
    · have g3 : nI 16 ≤ nI k := nI_le (by omega) (by omega)
      rw [if_pos g3, if_pos g3]
      exact ⟨trivial, fun j => by rw [if_neg (by omega)]⟩
    · have g3 : ¬ nI 16 ≤ nI k := nI_ge (by omega) (by omega)
      rw [if_neg g3, if_neg g3, nI_add, cl (show 165 + k < 2 ^ 31 by omega), nI_1]
      obtain ⟨r1, r2⟩ := ih (k + 1) (upd w (165 + k) (nI 0)) (by omega) (by omega)
      refine ⟨⟨vp_in_nI (by omega) (by omega), r1⟩, fun j => ?_⟩
      rw [r2 j]
      by_cases h4 : j = 165 + k
      · subst h4; rw [if_neg (by omega), if_pos (by omega), upd_eq]
      · rw [upd_ne h4]
        by_cases h5 : 165 + (k + 1) ≤ j ∧ j < 181
        · rw [if_pos h5, if_pos (by omega)]
        · rw [if_neg h5, if_neg (by omega)]
theorem m_takeL (hm8 : R 1 ≤ 8) {r : Nat → Nat} (hr : RG (fl (R 1)) r) (hD : ∀ k : Nat, k < R 1 → D k / 3 = r k ∧ D k < 32) (hB : ∀ k : Nat, k < R 1 → (f_X7_splits mN mC mH mW mB mX).2.2.2.2.1 k = nI (D k)) : ∀ (n g k : Nat) (w : Nat → Int32), R 1 < g + n → g ≤ R 1 → PreR g k r → RowM (tkR R D g) w →
    k_X7_take_L50 mN mC mH mW mB mX n (nI k) (nI g) w ∧ ∃ k' : Nat, PreR (R 1) k' r ∧ (f_X7_take_L50 mN mC mH mW mB mX n (nI k) (nI g) w).1 = nI k' ∧ RowM (tkR R D (R 1)) (f_X7_take_L50 mN mC mH mW mB mX n (nI k) (nI g) w).2.2 := by
  intro n
  induction n with
  | zero => intro g k w h1 h2; omega
  | succ n ih =>
    intro g k w h1 h2 hP hw
    have e1 : w 1 = nI (R 1) := by
      rw [hw 1 (by omega)]
      have : ∀ j : Nat, j < R 1 → D j / 3 < 8 := fun j hj => by rw [(hD j hj).1]; have := RG_le hr j (fl_tb.mpr hj); omega
      have : ∀ n : Nat, tkR R D n 1 = R 1 := by
        intro n
        induction n with
        | zero => show tk0 R 1 = R 1; rw [tk0, if_neg (show ¬ (165 ≤ 1 ∧ 1 < 181) by omega)]
        | succ n ih => rw [tkR, updN_ne (by omega), updN_ne (by omega), ih]
      rw [this]
    rw [f_X7_take_L50, k_X7_take_L50, show Int32.toNatClampNeg 1 = 1 from rfl, e1]
    by_cases h3 : g = R 1
    · have g3 : nI (R 1) ≤ nI g := nI_le (by omega) (by omega)
      rw [if_pos g3, if_pos g3]
      subst h3
      exact ⟨trivial, k, hP, rfl, hw⟩
    · have g3 : ¬ nI (R 1) ≤ nI g := nI_ge (by omega) (by omega)
      have hg : g < R 1 := by omega
      obtain ⟨d1, d2⟩ := hD g hg
      have rl := RG_le hr g (fl_tb.mpr hg)
      have kl := pre_le hP
      have rk : r g ≤ k := by
        rcases Nat.lt_or_ge k (r g) with h5 | h5
        · obtain ⟨j, j1, j2, j3⟩ := hr g (fl_tb.mpr hg) k h5
          have := hP.2.1 j j1
          omega
        · exact h5
      have w1 : (133 + (4 * nI g)) + 3 = nI (136 + 4 * g) := by rw [lit 133, lit 4, lit 3, nI_mul, nI_add, nI_add]; congr 1; omega
      have w2 : (165 + (2 * nI (D g / 3))) + 0 = nI (165 + 2 * (D g / 3)) := by rw [lit 165, lit 2, lit 0, nI_mul, nI_add, nI_add]; rfl
      have q1 : nI (D g) / 3 = nI (D g / 3) := by rw [lit 3, nI_div (by omega) (by omega)]
      have q2 : jrem (nI (D g)) 3 = nI (D g % 3) := by rw [lit 3, nI_rem (by omega) (by omega)]
      have cg : Int32.toNatClampNeg (nI g) = g := cl (by omega)
      have c1 : Int32.toNatClampNeg (nI (136 + 4 * g)) = 136 + 4 * g := cl (by omega)
      have c2 : Int32.toNatClampNeg (nI (165 + 2 * (D g / 3))) = 165 + 2 * (D g / 3) := cl (by omega)
      have hw' : RowM (tkR R D (g + 1)) (upd (upd w (136 + 4 * g) (nI (D g / 3 + 1))) (165 + 2 * (D g / 3)) (nI (D g % 3))) := rowm_upd (rowm_upd hw _ _) _ _
      have v1 : vp_in (nI g) 8 := vp_in_nI (by omega) (by omega)
      have v2 : vp_in (nI (136 + 4 * g)) 181 := vp_in_nI (by omega) (by omega)
      have v3 : vp_in (nI (165 + 2 * (D g / 3))) 181 := vp_in_nI (by omega) (by omega)
      have hP' : PreR (g + 1) (if r g = k then k + 1 else k) r := by
        have := pre_add hP rk
        obtain ⟨p1, p2, p3⟩ := this
        have ef : (fun h => if h = g then r g else r h) = r := by
          funext h
          by_cases hh : h = g
          · subst hh; exact if_pos rfl
          · simp only [if_neg hh]
        rw [ef] at p1 p2 p3
        exact ⟨p1, p2, p3⟩
      simp only [if_neg g3, cg, hB g hg, q1, q2, w1, w2, c1, c2, nI_1]
      by_cases h4 : r g = k
      · have g4 : nI (D g / 3) = nI k := by rw [d1, h4]
        rw [if_pos h4] at hP'
        obtain ⟨r1, k', r2, r3, r4⟩ := ih (g + 1) (k + 1) _ (by omega) (by omega) hP' hw'
        simp only [if_pos g4]
        exact ⟨⟨v1, v2, v1, v3, r1⟩, k', r2, r3, r4⟩
      · have g4 : ¬ nI (D g / 3) = nI k := by rw [d1]; exact nI_ne (by omega) (by omega) h4
        rw [if_neg h4] at hP'
        obtain ⟨r1, k', r2, r3, r4⟩ := ih (g + 1) k _ (by omega) (by omega) hP' hw'
        simp only [if_neg g4]
        exact ⟨⟨v1, v2, v1, v3, r1⟩, k', r2, r3, r4⟩
theorem c_takeL (hm8 : R 1 ≤ 8) (hd : ∀ j : Nat, j < 8 → D j / 3 < 8) {y : Nat} (hy : y < 2 ^ 63) (hD : ∀ k : Nat, k < R 1 → D k = dgt y k) (sZ sO sL : Nat → Int32) (sR sW : Nat → Int64) : ∀ (n g : Nat) (w : Nat → Int32), R 1 < g + n → g ≤ R 1 → PlanOf (tuR R D g) w →
    k_X6_take_L65 (nI (R 1)) n (lN y) (nI g) sZ sR sO sL sW w ∧ ∃ w' : Nat → Int32, PlanOf (tuR R D (R 1)) w' ∧ f_X6_take_L65 (nI (R 1)) n (lN y) (nI g) sZ sR sO sL sW w = (lN y, nI (R 1), sZ, sR, sO, sL, sW, w') := by
  intro n
  induction n with
  | zero => intro g w h1 h2; omega
  | succ n ih =>
    intro g w h1 h2 hw
    rw [f_X6_take_L65, k_X6_take_L65, f_X0_goodCount]
    by_cases h3 : g = R 1
    · have g3 : nI (R 1) ≤ nI g := nI_le (by omega) (by omega)
      rw [if_pos g3, if_pos g3]
      subst h3
      exact ⟨trivial, w, hw, rfl⟩
    · have g3 : ¬ nI (R 1) ≤ nI g := nI_ge (by omega) (by omega)
      have hg : g < R 1 := by omega
      have dg := hd g (by omega)
      have e0 : tuR R D g (136 + 4 * g) = 0 := tu_none g g (Nat.le_refl _) (by omega) (fun j hj => hd j (by omega))
      have ep : f_X1_parcelOf (nI g) w = nI 0 - nI 1 := by rw [p_parcelOf hw (by omega), e0]
      have em : f_X1_moveGood (nI g) (nI (D g / 3)) w = upd w g (nI (D g / 3)) := by rw [f_X1_moveGood, ep, pm0, if_pos rfl, st_in (by omega) (by omega)]
      have km : k_X1_moveGood (nI g) (nI (D g / 3)) w := by rw [k_X1_moveGood, ep, pm0, if_pos rfl]; trivial
      have ec : f_X1_setCarrier (nI (D g / 3)) (nI (D g % 3)) (upd w g (nI (D g / 3))) = upd (upd w g (nI (D g / 3))) (8 + D g / 3) (nI (D g % 3)) := by rw [f_X1_setCarrier, lit 8, nI_add, st_in (by omega) (by omega)]
      have hw' : PlanOf (tuR R D (g + 1)) (upd (upd w g (nI (D g / 3))) (8 + D g / 3) (nI (D g % 3))) := by
        rw [tuR]
        refine plan_car ?_ dg
        rw [pm1 (D g / 3)]
        exact plan_put hw (by omega)
      rw [if_neg g3, if_neg g3, c_parcelIn hy (by omega), c_carrierIn hy (by omega), ← hD g hg, em, ec, nI_1]
      obtain ⟨r1, w', r2, r3⟩ := ih (g + 1) _ (by omega) (by omega) hw'
      exact ⟨⟨km, r1⟩, w', r2, r3⟩
theorem caN_lt (hR : RowOk R) (P : Nat) : caN (offZ R) P < R 0 := by
  have h0 := hR.1
  rw [caN]
  split
  · omega
  · rename_i x hx
    exact (offR_ch (R 0) (by omega) x hx).1
theorem t_take (hR : RowOk R) (h : BookC R bA bB bZ bG bP bQ bC bM) (hp : PricesC R rK rL rG) (hU : OnesOk sU) (hc : CacheOk R sZ sR) (hl : PlanOf R pS) (hm : RowM R mN) (hr : RingOk R pE mS pN pK mV) (sO sL : Nat → Int32) (sW : Nat → Int64) (mC mH mW mB mX : Nat → Int32) :
    (f_X6_take rK rL rG sZ sR sO sL sW sU pS pE bA bB bZ bP bQ pN pK bC bM).1 = (f_X7_take mN mS mC mH mW mB mX mV).1 ∧ k_X6_take rK rL rG sZ sR sO sL sW sU pS pE bA bB bZ bP bQ pN bC bM ∧ k_X7_take mN mS mC mH mW mB mX mV ∧
    CacheOk R (f_X6_take rK rL rG sZ sR sO sL sW sU pS pE bA bB bZ bP bQ pN pK bC bM).2.1 (f_X6_take rK rL rG sZ sR sO sL sW sU pS pE bA bB bZ bP bQ pN pK bC bM).2.2.1 ∧
    ∃ R' : Nat → Nat, BEq R R' ∧ RowOk R' ∧ RowM R' (f_X7_take mN mS mC mH mW mB mX mV).2.1 ∧ PlanOf R' (f_X6_take rK rL rG sZ sR sO sL sW sU pS pE bA bB bZ bP bQ pN pK bC bM).2.2.2.2.2.2.1 ∧
      RingOk R' (f_X6_take rK rL rG sZ sR sO sL sW sU pS pE bA bB bZ bP bQ pN pK bC bM).2.2.2.2.2.2.2.1 (f_X7_take mN mS mC mH mW mB mX mV).2.2.1 (f_X6_take rK rL rG sZ sR sO sL sW sU pS pE bA bB bZ bP bQ pN pK bC bM).2.2.2.2.2.2.2.2.1 (f_X6_take rK rL rG sZ sR sO sL sW sU pS pE bA bB bZ bP bQ pN pK bC bM).2.2.2.2.2.2.2.2.2 (f_X7_take mN mS mC mH mW mB mX mV).2.2.2.2.2.2.2.2.2.1 := by
  have hbM := h.2.1
  subst hbM
  have h0 := hR.1
  obtain ⟨a1, a2, a3, a4⟩ := c_leastC hR h hp hU hc (pl := R 2) (dy := R 3) (by omega) (by omega) sO sL sW
  obtain ⟨b1, b2⟩ := sol_both hR hm a4 mC mH mW mB mX
  obtain ⟨s1, s2, s3⟩ := ring_keep hR hm hl hr
  rw [f_X6_take, f_X7_take, k_X6_take, k_X7_take, p_place hl, p_day hl]
  generalize f_X4_leastCharge (nI (R 2)) (nI (R 3)) rK rL rG sZ sR sO sL sW sU bA bB bZ bP bQ bC (nI (R 1)) = F at *
  rcases b2 with ⟨c1, c2⟩ | ⟨z, c1, c4, c2, c3, c5, c6, r, c7, c8⟩
  · have g1 : ¬ (0 : Int32) ≤ M2 := by decide +kernel
    have g2 : M2 = (-2 : Int32) := rfl
    simp only [c1, c2, if_neg g1, if_pos g2]
    exact ⟨trivial, ⟨a1, trivial⟩, ⟨b1, trivial⟩, a3, R, fun _ _ _ _ _ => rfl, hR, hm, hl, hr⟩
  · have g1 : (0 : Int32) ≤ nI z.1 := nI_pos' (by omega)
    have g2 : ¬ nI z.1 = (-2 : Int32) := nI_ne_neg M2_neg (by omega)
    simp only [c1, c2, if_pos g1, if_neg g2, c4]
    have hDr : ∀ k : Nat, k < R 1 → dgt z.2 k / 3 = r k ∧ dgt z.2 k < 32 ∧ dgt z.2 k % 3 < R 0 := by
      intro k hk
      have e := c8 k hk
      rw [digN, if_pos (fl_tb.mpr hk)] at e
      have e2 := caN_lt hR (setOf (fl (R 1)) r (r k))
      have e3 : dgt z.2 k < 32 := Nat.mod_lt _ (by omega)
      omega
    have hd : ∀ j : Nat, j < 8 → (fun k => if k < R 1 then dgt z.2 k else 0) j / 3 < 8 := by
      intro j hj
      show (if j < R 1 then dgt z.2 j else 0) / 3 < 8
      split
      · rename_i hj1
        rw [(hDr j hj1).1]
        have := RG_le c7 j (fl_tb.mpr hj1)
        omega
      · omega
    have hDD : ∀ k : Nat, k < R 1 → (fun k => if k < R 1 then dgt z.2 k else 0) k = dgt z.2 k := fun k hk => if_pos hk
    generalize (fun k => if k < R 1 then dgt z.2 k else 0) = D at hd hDD
    obtain ⟨u1, u2, u3, u4⟩ := c_unpack pS
    have hpl0 : PlanOf (tuR R D 0) (f_X1_unpack pS) := by
      refine ⟨fun g hg => ?_, fun q hq => ?_, ?_, ?_⟩
      · rw [u2 g hg, tu_none 0 g (by omega) hg (fun j hj => by omega)]
      · rw [u3 (8 + q) (by omega) (by omega), u3 (16 + q) (by omega) (by omega)]
        have e : ∀ i : Nat, 165 ≤ i → i < 181 → tuR R D 0 i = 0 := by
          intro i i1 i2
          show tu0 R i = 0
          rw [tu0, if_neg (by omega), tk0, if_pos ⟨i1, i2⟩]
        rw [e _ (by omega) (by omega), e _ (by omega) (by omega)]
        exact ⟨rfl, rfl⟩
      · rw [u4 24 (by omega), hl.2.2.1]
        show nI (R 2) = nI (tu0 R 2)
        rw [tu0, if_neg (by omega), tk0, if_neg (by omega)]
      · rw [u4 25 (by omega), hl.2.2.2]
        show nI (R 3) = nI (tu0 R 3)
        rw [tu0, if_neg (by omega), tk0, if_neg (by omega)]
    obtain ⟨x1, w', x2, x3⟩ := c_takeL (R := R) (D := D) h0.2.2.1 hd (y := z.2) (by omega) hDD F.2.1 F.2.2.2.1 F.2.2.2.2.1 F.2.2.1 F.2.2.2.2.2 FU 0 (f_X1_unpack pS) (by have := FU_big (n := R 1) (by omega); omega) (by omega) hpl0
    obtain ⟨y1, y2⟩ := m_clrL FU 0 mN (by have := FU_big (n := 16) (by omega); omega) (by omega)
    have hm0 : RowM (tkR R D 0) (f_X7_take_L23 FU (nI 0) mN).2 := by
      intro i hi
      rw [y2 i]
      show _ = nI (tk0 R i)
      rw [tk0]
      by_cases h5 : 165 ≤ i
      · rw [if_pos (by omega), if_pos (by omega)]
      · rw [if_neg (by omega), if_neg (by omega)]; exact hm i hi
    obtain ⟨p1, k', p2, p3, p4⟩ := m_takeL (R := R) (D := D) (mN := mN) (mC := mC) (mH := mH) (mW := mW) (mB := mB) (mX := mX) h0.2.2.1 c7 (fun k hk => by rw [hDD k hk]; exact ⟨(hDr k hk).1, (hDr k hk).2.1⟩) (fun k hk => by rw [hDD k hk]; exact c6 k hk) FU 0 0 _ (by have := FU_big (n := R 1) (by omega); omega) (by omega) ⟨fun g hg => by rw [fl_tb] at hg; omega, fun h hh => by omega, fun q hq => by omega⟩ hm0
    obtain ⟨t1, t2, t3, t4, t5, t6⟩ := tk_lt hd (R := R) (R 1) h0.2.2.1
    have hR' : RowOk (tkR R D (R 1)) := by
      refine rowok_be hR t1 ⟨by rw [t2]; omega, by rw [t3]; omega⟩ ?_ ?_
      · intro g hg
        rw [t5 g hg]
        by_cases h7 : g < R 1
        · rw [if_pos h7]
          have := hd g hg
          exact ⟨by omega, fun h => by omega⟩
        · rw [if_neg h7]
          exact hR.2.2.2.2.2.1 g hg
      · intro q hq
        rw [t4 q hq]
        refine ⟨?_, by omega⟩
        rcases t6 q hq with h8 | ⟨g, h8, h9⟩
        · rw [h8]; omega
        · rw [h9, hDD g h8]; exact (hDr g h8).2.2
    have hP' : PlanOf (tkR R D (R 1)) w' := by
      obtain ⟨q1, q2, q3, q4⟩ := x2
      refine ⟨fun g hg => ?_, fun q hq => ?_, ?_, ?_⟩
      · by_cases h7 : g < R 1
        · rw [tk_tu (R 1) (136 + 4 * g) (fun g' _ _ => by omega) (Or.inr (Or.inr ⟨g, hg, rfl⟩))]; exact q1 g hg
        · have e1 : tkR R D (R 1) (136 + 4 * g) = 0 := by
            rw [t5 g hg, if_neg h7]; exact (hR.2.2.2.2.2.1 g hg).2 (by omega)
          rw [q1 g hg, e1, tu_none (R 1) g (by omega) hg (fun j hj => hd j (by omega))]
      · rw [tk_tu (R 1) (165 + 2 * q) (fun g' _ _ => by omega) (Or.inr (Or.inl (by omega))), tk_tu (R 1) (166 + 2 * q) (fun g' _ _ => by omega) (Or.inr (Or.inl (by omega)))]; exact q2 q hq
      · rw [tk_tu (R 1) 2 (fun g' _ _ => by omega) (Or.inl (by omega))]; exact q3
      · rw [tk_tu (R 1) 3 (fun g' _ _ => by omega) (Or.inl (by omega))]; exact q4
    obtain ⟨f1, f2⟩ := c_fil hR' hP'
    have hk := pre_le p2
    have epar : parN (tkR R D (R 1)) 8 = 2 ^ k' - 1 := by
      apply Nat.eq_of_testBit_eq
      intro q
      rw [Bool.eq_iff_iff, parN, bitsN_tb, Bool.and_eq_true, decide_eq_true_eq, decide_eq_true_eq, inP_nz hR', Nat.testBit_two_pow_sub_one, decide_eq_true_eq]
      constructor
      · rintro ⟨q1, g, q2, q3⟩
        rw [t5 g q2] at q3
        by_cases h7 : g < R 1
        · rw [if_pos h7, hDD g h7, (hDr g h7).1] at q3
          have := p2.2.1 g h7
          omega
        · rw [if_neg h7, (hR.2.2.2.2.2.1 g q2).2 (by omega)] at q3
          omega
      · intro q1
        obtain ⟨g, q2, q3⟩ := p2.2.2 q q1
        refine ⟨by omega, g, by omega, ?_⟩
        rw [t5 g (by omega), if_pos q2, hDD g q2, (hDr g q2).1, q3]
    have hlt : 2 ^ k' ≤ 2 ^ 8 := Nat.pow_le_pow_right (by omega) (by omega)
    have hlt2 : 1 ≤ 2 ^ k' := Nat.one_le_two_pow
    have epop : f_J6_bitCount_0f7a4 (nI (2 ^ k' - 1)) = nI k' := by
      rw [c_pop (by omega), pop_full ⟨k', by omega⟩]
    have x3' : f_X6_take_L65 (nI (R 1)) FU (lN z.2) 0 F.2.1 F.2.2.1 F.2.2.2.1 F.2.2.2.2.1 F.2.2.2.2.2 (f_X1_unpack pS) = _ := x3
    simp only [f_X6_take_L49, k_X6_take_L49, x3', f1, epar, epop]
    exact ⟨p3.symm, ⟨a1, a2, s1, u1, x1, f2, trivial, trivial⟩, ⟨b1, s2, y1, p1, trivial⟩, a3, tkR R D (R 1), t1, hR', p4, hP', ring_be t1 s3⟩
end TAKE
