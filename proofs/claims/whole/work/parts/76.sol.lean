/-! PURE, 27: least, split, gap, would -/
theorem lN_bv (a : Nat) : (lN a).toBitVec = BitVec.ofNat 64 a := rfl
theorem lN_and {a b : Nat} : lN a &&& lN b = lN (a &&& b) := by
  apply Int64.toBitVec_inj.mp
  rw [Int64.toBitVec_and, lN_bv, lN_bv, lN_bv]
  exact (BitVec.ofNat_and).symm
theorem lN_shr {a k : Nat} (ha : a < 2 ^ 63) (hk : k < 64) : lN a >>> lN k = lN (a >>> k) := by
  apply Int64.toInt_inj.mp
  have h1 : (lN k).toBitVec.smod 64 = BitVec.ofNat 64 k := by
    rw [lN_bv]
    have : ∀ k : Fin 64, (BitVec.ofNat 64 k.val).smod 64 = BitVec.ofNat 64 k.val := by decide +kernel
    exact this ⟨k, hk⟩
  have h3 : a >>> k ≤ a := by rw [Nat.shiftRight_eq_div_pow]; exact Nat.div_le_self _ _
  rw [pk_lT (by omega), ← Int64.toInt_toBitVec, Int64.toBitVec_shiftRight, h1, BitVec.toInt_sshiftRight', lN_bv, BitVec.toNat_ofNat, Nat.mod_eq_of_lt (show k < 2 ^ 64 by omega)]
  have h2 : (BitVec.ofNat 64 a).toInt = (a : Int) := pk_lT ha
  rw [h2]
  rfl
theorem sh64 : ∀ g : Fin 8, Int32.toInt64 (f_X4_shiftOf (Int32.ofNat g.val)) &&& 63 = Int64.ofNat (5 * (7 - g.val)) := by
  intro g
  have : ∀ g : Fin 8, Int32.toInt64 (5 * (7 - Int32.ofNat g.val)) &&& 63 = Int64.ofNat (5 * (7 - g.val)) := by decide +kernel
  exact this g
theorem c_digit {w g : Nat} (hw : w < 2 ^ 63) (hg : g < 8) : f_X4_digitIn (lN w) (nI g) = nI (dgt w g) := by
  have e : Int32.toInt64 (f_X4_shiftOf (nI g)) &&& 63 = lN (5 * (7 - g)) := sh64 ⟨g, hg⟩
  rw [f_X4_digitIn, e, lN_shr hw (by omega), lN_i, lit 31, nI_and, dgt]
  congr 1
  rw [show (31 : Nat) = 2 ^ 5 - 1 from rfl, Nat.and_two_pow_sub_one_eq_mod, Nat.shiftRight_eq_div_pow, Nat.pow_mul]
theorem c_parcelIn {w g : Nat} (hw : w < 2 ^ 63) (hg : g < 8) : f_X4_parcelIn (lN w) (nI g) = nI (dgt w g / 3) := by
  have : dgt w g < 32 := Nat.mod_lt _ (by omega)
  rw [f_X4_parcelIn, c_digit hw hg, lit 3, nI_div (by omega) (by omega)]
theorem c_carrierIn {w g : Nat} (hw : w < 2 ^ 63) (hg : g < 8) : f_X4_carrierIn (lN w) (nI g) = nI (dgt w g % 3) := by
  have : dgt w g < 32 := Nat.mod_lt _ (by omega)
  rw [f_X4_carrierIn, c_digit hw hg, lit 3, nI_rem (by omega) (by omega)]
/-- both sides' solutions -/
def SolBoth (R : Nat → Nat) (l : Int32) (w : Int64) (ml : Int32) (mB : Nat → Int32) : Prop :=
  (l = M2 ∧ ml = M2) ∨ ∃ y : Nat × Nat, l = nI y.1 ∧ w = lN y.2 ∧ ml = nI y.1 ∧ y.1 < 1000000 ∧ y.2 < 1099511627776 ∧ (∀ k : Nat, k < R 1 → mB k = nI (dgt y.2 k)) ∧ ∃ r : Nat → Nat, RG (fl (R 1)) r ∧ ∀ k : Nat, k < R 1 → dgt y.2 k = digN (offZ R) (fl (R 1)) r k
theorem sol_both {R : Nat → Nat} {l : Int32} {w : Int64} {mN : Nat → Int32} (hR : RowOk R) (hm : RowM R mN) (hs : SolOk R (zAt R (R 2) (R 3) (R 0)) l w) (mC mH mW mB mX : Nat → Int32) :
    k_X7_splits mN mC mH mW mB mX ∧ SolBoth R l w (f_X7_splits mN mC mH mW mB mX).1 (f_X7_splits mN mC mH mW mB mX).2.2.2.2.1 := by
  have h0 := hR.1
  obtain ⟨a1, x, a2, a3, a4⟩ := m_splits hR hm mC mH mW mB mX
  refine ⟨a1, ?_⟩
  obtain ⟨x', b1, b2⟩ := hs
  have eo : offN R (zAt R (R 2) (R 3) (R 0)) = offZ R := funext (fun S => offZ_N hR (by omega))
  rw [eo] at b1
  have e : x' = x := best_uniq b1 a2
  subst e
  cases x' with
  | none => exact Or.inl ⟨b2, a3 rfl⟩
  | some y =>
    obtain ⟨c1, c2⟩ := a4 y rfl
    obtain ⟨d1, d2⟩ := BestS_lt a2
    obtain ⟨e1, ⟨r, e2, e3, e4⟩, e5⟩ := a2
    exact Or.inr ⟨y, b2.1, b2.2.1, c1, d1, d2, c2, r, e2, fun k hk => by rw [← e4, dgt_dig e2 (by omega)]⟩
section SOL
variable {R : Nat → Nat} {bA bB bZ bG bP bQ rK rL rG pS sZ sO sL : Nat → Int32} {bC bM : Int32} {mN : Nat → Int32} {sR sW sU : Nat → Int64}
theorem t_least (hR : RowOk R) (h : BookC R bA bB bZ bG bP bQ bC bM) (hp : PricesC R rK rL rG) (hU : OnesOk sU) (hc : CacheOk R sZ sR) (hl : PlanOf R pS) (hm : RowM R mN) (sO sL : Nat → Int32) (sW : Nat → Int64) (mC mH mW mB mX : Nat → Int32) :
    (f_X6_least rK rL rG sZ sR sO sL sW sU pS bA bB bZ bP bQ bC bM).1 = (f_X7_least mN mC mH mW mB mX).1 ∧ k_X6_least rK rL rG sZ sO sL sW sU pS bA bB bZ bP bQ bC bM ∧ k_X7_least mN mC mH mW mB mX ∧ CacheOk R (f_X6_least rK rL rG sZ sR sO sL sW sU pS bA bB bZ bP bQ bC bM).2.1 (f_X6_least rK rL rG sZ sR sO sL sW sU pS bA bB bZ bP bQ bC bM).2.2.1 := by
  have h0 := hR.1
  obtain ⟨a1, a2, a3, a4⟩ := c_leastC hR h hp hU hc (pl := R 2) (dy := R 3) (by omega) (by omega) sO sL sW
  obtain ⟨b1, b2⟩ := sol_both hR hm a4 mC mH mW mB mX
  rw [f_X6_least, f_X7_least, k_X6_least, k_X7_least, p_place hl, p_day hl]
  refine ⟨?_, ⟨a1, trivial⟩, ⟨b1, trivial⟩, a3⟩
  rcases b2 with ⟨c1, c2⟩ | ⟨y, c1, _, c2, _⟩
  · exact c1.trans c2.symm
  · exact c1.trans c2.symm
theorem t_gap (hR : RowOk R) (h : BookC R bA bB bZ bG bP bQ bC bM) (hp : PricesC R rK rL rG) (hU : OnesOk sU) (hc : CacheOk R sZ sR) (hl : PlanOf R pS) (hm : RowM R mN) (sO sL : Nat → Int32) (sW : Nat → Int64) (mC mH mW mB mX : Nat → Int32) :
    (f_X6_gap rK rL rG sZ sR sO sL sW sU pS bA bB bZ bP bQ bC bM).1 = (f_X7_gap mN mC mH mW mB mX).1 ∧ k_X6_gap rK rL rG sZ sO sL sW sU pS bA bB bZ bP bQ bC bM ∧ k_X7_gap mN mC mH mW mB mX ∧ CacheOk R (f_X6_gap rK rL rG sZ sR sO sL sW sU pS bA bB bZ bP bQ bC bM).2.1 (f_X6_gap rK rL rG sZ sR sO sL sW sU pS bA bB bZ bP bQ bC bM).2.2.1 := by
  have h0 := hR.1
  obtain ⟨a1, a2, a3, a4⟩ := c_leastC hR h hp hU hc (pl := R 2) (dy := R 3) (by omega) (by omega) sO sL sW
  obtain ⟨b1, b2⟩ := sol_both hR hm a4 mC mH mW mB mX
  obtain ⟨l1, l2⟩ := c_low hR h hp hl
  obtain ⟨m1, m2⟩ := m_bound hR hm
  have hbd : ∀ t : Nat, boundN R = some t → t < 2 ^ 31 := by
    intro t ht
    have := lowR_le hR (W := sumS R 0 (2 ^ R 1 - 1)) (sumS_le0 hR) (R 0) (Nat.le_refl _) t ht
    omega
  rw [f_X6_gap, f_X7_gap, k_X6_gap, k_X7_gap, p_place hl, p_day hl, l1, m1, neg2, lit 0]
  generalize f_X4_leastCharge (nI (R 2)) (nI (R 3)) rK rL rG sZ sR sO sL sW sU bA bB bZ bP bQ bC bM = F at *
  generalize f_X7_splits mN mC mH mW mB mX = G at *
  rcases b2 with ⟨c1, c2⟩ | ⟨y, c1, _, c2, c3, _⟩
  · simp only [c1, c2, if_pos M2_neg, if_true]
    exact ⟨trivial, ⟨a1, l2, trivial⟩, ⟨b1, trivial⟩, a3⟩
  · have g1 : ¬ nI y.1 < nI 0 := nI_nlt (by omega) (by omega)
    have g2 : ¬ nI y.1 = M2 := nI_ne_neg M2_neg (by omega)
    simp only [c1, c2, if_neg g1, if_neg g2]
    cases hb : boundN R with
    | none =>
      have g3 : ¬ nI 0 ≤ oI M2 none := by decide +kernel
      have g4 : oI M2 none = M2 := rfl
      simp only [if_neg g3, if_pos g4]
      exact ⟨trivial, ⟨a1, l2, trivial⟩, ⟨b1, m2, trivial⟩, a3⟩
    | some t =>
      have ht := hbd t hb
      have g3 : nI 0 ≤ oI M2 (some t) := nI_le (by omega) ht
      have g4 : ¬ oI M2 (some t) = M2 := nI_ne_neg M2_neg ht
      simp only [if_pos g3, if_neg g4]
      exact ⟨trivial, ⟨a1, l2, trivial⟩, ⟨b1, m2, m2, trivial⟩, a3⟩
theorem t_split (hR : RowOk R) (h : BookC R bA bB bZ bG bP bQ bC bM) (hp : PricesC R rK rL rG) (hU : OnesOk sU) (hc : CacheOk R sZ sR) (hl : PlanOf R pS) (hm : RowM R mN) (sO sL : Nat → Int32) (sW : Nat → Int64) (mC mH mW mB mX : Nat → Int32) (mE : Int32) (x y : Int32) :
    (f_X6_split x y rK rL rG sZ sR sO sL sW sU pS bA bB bZ bP bQ bC bM).1 = (f_X7_split x y mN mC mH mW mB mX mE).1 ∧ k_X6_split x y rK rL rG sZ sR sO sL sW sU pS bA bB bZ bP bQ bC bM ∧ k_X7_split x y mN mC mH mW mB mX ∧ CacheOk R (f_X6_split x y rK rL rG sZ sR sO sL sW sU pS bA bB bZ bP bQ bC bM).2.1 (f_X6_split x y rK rL rG sZ sR sO sL sW sU pS bA bB bZ bP bQ bC bM).2.2.1 := by
  have hbM := h.2.1
  subst hbM
  have h0 := hR.1
  have k0 : k_X7_isGood x mN := ⟨isIn01 _ _ _, trivial⟩
  obtain ⟨a1, a2, a3, a4⟩ := c_leastC hR h hp hU hc (pl := R 2) (dy := R 3) (by omega) (by omega) sO sL sW
  obtain ⟨b1, b2⟩ := sol_both hR hm a4 mC mH mW mB mX
  rw [f_X6_split, f_X7_split, k_X6_split, k_X7_split, p_place hl, p_day hl, f_X7_isIn]
  generalize f_X4_leastCharge (nI (R 2)) (nI (R 3)) rK rL rG sZ sR sO sL sW sU bA bB bZ bP bQ bC (nI (R 1)) = F at *
  generalize f_X7_splits mN mC mH mW mB mX = G at *
  rcases good_of hR hm x with ⟨d1, d2⟩ | ⟨g, hg, rfl, d1, d2⟩
  · simp only [d1, d2, if_true]
    exact ⟨trivial, trivial, ⟨k0, trivial⟩, hc⟩
  · simp only [d1, d2, if_neg one0]
    by_cases e1 : y < 0
    · simp only [if_pos e1, if_true]
      exact ⟨trivial, trivial, ⟨k0, trivial⟩, hc⟩
    · by_cases e2 : y ≤ 1
      · have e3 : ¬ (1 : Int32) < y := Int32.not_lt.mpr e2
        simp only [if_neg e1, if_pos e2, if_neg e3, if_neg one0]
        rcases b2 with ⟨c1, c2⟩ | ⟨z, c1, c4, c2, c3, c5, c6, _⟩
        · have g1 : ¬ (0 : Int32) ≤ M2 := by decide +kernel
          have g2 : M2 = (-2 : Int32) := rfl
          simp only [c1, c2, if_neg g1, if_pos g2]
          exact ⟨trivial, ⟨a1, trivial⟩, ⟨k0, b1, trivial⟩, a3⟩
        · have g1 : (0 : Int32) ≤ nI z.1 := nI_pos' (by omega)
          have g2 : ¬ nI z.1 = (-2 : Int32) := nI_ne_neg M2_neg (by omega)
          have vg : vp_in (nI g) 8 := vp_in_nI (by omega) (by omega)
          have dl : dgt z.2 g < 32 := Nat.mod_lt _ (by omega)
          have q1 : nI (dgt z.2 g) / 3 = nI (dgt z.2 g / 3) := by rw [lit 3, nI_div (by omega) (by omega)]
          have q2 : jrem (nI (dgt z.2 g)) 3 = nI (dgt z.2 g % 3) := by rw [lit 3, nI_rem (by omega) (by omega)]
          have cg : Int32.toNatClampNeg (nI g) = g := cl (by omega)
          simp only [c1, c2, c4, if_pos g1, if_neg g2, f_X6_split_L71, k_X6_split_L71, cg, c6 g hg, q1, q2, c_parcelIn (show z.2 < 2 ^ 63 by omega) (show g < 8 by omega), c_carrierIn (show z.2 < 2 ^ 63 by omega) (show g < 8 by omega)]
          by_cases e4 : y = 0
          · simp only [if_pos e4]
            exact ⟨trivial, ⟨a1, a2, trivial⟩, ⟨k0, b1, vg, trivial⟩, a3⟩
          · simp only [if_neg e4]
            exact ⟨trivial, ⟨a1, a2, trivial⟩, ⟨k0, b1, vg, trivial⟩, a3⟩
      · have e3 : (1 : Int32) < y := Int32.not_le.mp e2
        simp only [if_neg e1, if_neg e2, if_pos e3, if_true]
        exact ⟨trivial, trivial, ⟨k0, trivial⟩, hc⟩
theorem t_would (hR : RowOk R) (h : BookC R bA bB bZ bG bP bQ bC bM) (hp : PricesC R rK rL rG) (hU : OnesOk sU) (hc : CacheOk R sZ sR) (hm : RowM R mN) (sO sL : Nat → Int32) (sW : Nat → Int64) (mC mH mW mB mX : Nat → Int32) (mE : Int32) (x y : Int32) :
    (f_X6_would x y rK rL rG sZ sR sO sL sW sU bA bB bZ bP bQ bC bM).1 = (f_X7_would x y mN mC mH mW mB mX mE).1 ∧ k_X6_would x y rK rL rG sZ sO sL sW sU bA bB bZ bP bQ bC bM ∧ k_X7_would x y mN mC mH mW mB mX ∧ CacheOk R (f_X6_would x y rK rL rG sZ sR sO sL sW sU bA bB bZ bP bQ bC bM).2.1 (f_X6_would x y rK rL rG sZ sR sO sL sW sU bA bB bZ bP bQ bC bM).2.2.1 ∧ RowM R (f_X7_would x y mN mC mH mW mB mX mE).2.1 := by
  have h0 := hR.1
  rw [f_X6_would, f_X7_would, k_X6_would, k_X7_would]
  rcases order_of x y with ⟨a1, a2⟩ | ⟨pl, dy, h1, h2, rfl, rfl, a1, a2⟩
  · simp only [a1, a2, if_true]
    exact ⟨trivial, trivial, trivial, hc, hm⟩
  · obtain ⟨r1, r2⟩ := row_ord hR h1 h2
    have m1 : RowM (updN (updN R 2 pl) 3 dy) (upd (upd mN 2 (nI pl)) 3 (nI dy)) := rowm_upd (rowm_upd hm 2 pl) 3 dy
    obtain ⟨q1, q2, q3, q4⟩ := c_leastC hR h hp hU hc (pl := pl) (dy := dy) h1 h2 sO sL sW
    have ez : zAt R pl dy (R 0) = zAt (updN (updN R 2 pl) 3 dy) (updN (updN R 2 pl) 3 dy 2) (updN (updN R 2 pl) 3 dy 3) (updN (updN R 2 pl) 3 dy 0) := by
      rw [updN_ne (show 2 ≠ 3 by omega), updN_eq, updN_eq, ← be_0 r2]
      have : ∀ c : Nat, c ≤ R 0 → zAt R pl dy c = zAt (updN (updN R 2 pl) 3 dy) pl dy c := by
        intro c
        induction c with
        | zero => intro _; rfl
        | succ c ih => intro hc; rw [zAt, zAt, ih (by omega), zoneN_be hR r2 (by omega) h1]
      exact this _ (Nat.le_refl _)
    have q4' := sol_be hR r2 q4
    rw [ez] at q4'
    obtain ⟨b1, b2⟩ := sol_both r1 m1 q4' mC mH mW mB mX
    have c2 : Int32.toNatClampNeg 2 = 2 := rfl
    have c3 : Int32.toNatClampNeg 3 = 3 := rfl
    simp only [a1, a2, if_neg one0, f_X7_would_L65, k_X7_would_L65, c2, c3]
    refine ⟨?_, ⟨q1, trivial⟩, ⟨b1, trivial⟩, q3, ?_⟩
    · rcases b2 with ⟨c1, c2⟩ | ⟨y, c1, _, c2, _⟩
      · exact c1.trans c2.symm
      · exact c1.trans c2.symm
    · intro i hi
      by_cases i3 : i = 3
      · subst i3; rw [upd_eq]; exact hm 3 hi
      · rw [upd_ne i3]
        by_cases i2 : i = 2
        · subst i2; rw [upd_eq]; exact hm 2 hi
        · rw [upd_ne i2, upd_ne i3, upd_ne i2]; exact hm i hi
end SOL
