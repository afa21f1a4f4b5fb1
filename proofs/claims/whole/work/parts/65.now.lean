/-! PURE, 16: bits of what holds, parcels with goods, goods in parcels; now, parcel, and the lesser questions -/
def bitsN (f : Nat → Bool) : Nat → Nat
  | 0 => 0
  | g + 1 => if f g then bitsN f g ||| 1 <<< g else bitsN f g
theorem bitsN_tb {f : Nat → Bool} : ∀ (m g : Nat), (bitsN f m).testBit g = (decide (g < m) && f g) := by
  intro m
  induction m with
  | zero => intro g; rw [bitsN, Nat.zero_testBit]; simp
  | succ m ih =>
    intro g
    rw [bitsN]
    by_cases h : f m = true
    · rw [if_pos h, Nat.testBit_or, ih, Nat.one_shiftLeft, Nat.testBit_two_pow]
      by_cases h1 : m = g
      · subst h1; simp [h]
      · have : (g < m + 1) ↔ (g < m) := by omega
        simp [h1, this]
    · rw [if_neg h, ih]
      by_cases h1 : m = g
      · subst h1
        have h2 : f m = false := by simpa using h
        simp [h2]
      · have : (g < m + 1) ↔ (g < m) := by omega
        simp [this]
theorem bitsN_lt {f : Nat → Bool} (m : Nat) : bitsN f m < 2 ^ m := by
  apply Nat.lt_pow_two_of_testBit
  intro i hi
  rw [bitsN_tb]
  have : ¬ i < m := by omega
  simp [this]
theorem nz_tb {x : Nat} (h : x ≠ 0) : ∃ i, x.testBit i = true := by
  exact Nat.exists_testBit_of_ne_zero h
theorem tb_nz {x i : Nat} (h : x.testBit i = true) : x ≠ 0 := by
  intro e; rw [e, Nat.zero_testBit] at h; cases h
def filN (R : Nat → Nat) : Nat → Nat
  | 0 => 0
  | g + 1 => if R (136 + 4 * g) = 0 then filN R g else filN R g ||| 1 <<< (R (136 + 4 * g) - 1)
theorem filN_tb {R : Nat → Nat} : ∀ (m q : Nat), (filN R m).testBit q = true ↔ ∃ g, g < m ∧ R (136 + 4 * g) = q + 1 := by
  intro m
  induction m with
  | zero => intro q; rw [filN, Nat.zero_testBit]; simp
  | succ m ih =>
    intro q
    rw [filN]
    by_cases h : R (136 + 4 * m) = 0
    · rw [if_pos h, ih]
      constructor
      · rintro ⟨g, h1, h2⟩; exact ⟨g, by omega, h2⟩
      · rintro ⟨g, h1, h2⟩
        refine ⟨g, ?_, h2⟩
        rcases Nat.lt_succ_iff_lt_or_eq.mp h1 with h3 | h3
        · exact h3
        · subst h3; omega
    · rw [if_neg h, Nat.testBit_or, Bool.or_eq_true, ih, Nat.one_shiftLeft, Nat.testBit_two_pow, decide_eq_true_eq]
      constructor
      · rintro (⟨g, h1, h2⟩ | h1)
        · exact ⟨g, by omega, h2⟩
        · exact ⟨m, by omega, by omega⟩
      · rintro ⟨g, h1, h2⟩
        rcases Nat.lt_succ_iff_lt_or_eq.mp h1 with h3 | h3
        · exact Or.inl ⟨g, h3, h2⟩
        · subst h3; exact Or.inr (by omega)
def parN (R : Nat → Nat) (m : Nat) : Nat := bitsN (fun q => decide (inP R q ≠ 0)) m
theorem inP_nz {R : Nat → Nat} (hR : RowOk R) {q : Nat} : inP R q ≠ 0 ↔ ∃ g, g < 8 ∧ R (136 + 4 * g) = q + 1 := by
  have h0 := hR.1.2.2.1
  constructor
  · intro h
    obtain ⟨g, hg⟩ := nz_tb h
    rw [inP, inN_tb, Bool.and_eq_true, decide_eq_true_eq, decide_eq_true_eq] at hg
    exact ⟨g, by omega, hg.2⟩
  · rintro ⟨g, h1, h2⟩
    have h3 : g < R 1 := by
      rcases Nat.lt_or_ge g (R 1) with h4 | h4
      · exact h4
      · have := (hR.2.2.2.2.2.1 g h1).2 h4; omega
    refine tb_nz (i := g) ?_
    rw [inP, inN_tb, Bool.and_eq_true, decide_eq_true_eq, decide_eq_true_eq]
    exact ⟨h3, h2⟩
theorem fil_par {R : Nat → Nat} (hR : RowOk R) : filN R 8 = parN R 8 := by
  apply Nat.eq_of_testBit_eq
  intro q
  rw [Bool.eq_iff_iff, filN_tb, parN, bitsN_tb, Bool.and_eq_true, decide_eq_true_eq, decide_eq_true_eq, inP_nz hR]
  constructor
  · rintro ⟨g, h1, h2⟩
    have := (hR.2.2.2.2.2.1 g h1).1
    exact ⟨by omega, g, h1, h2⟩
  · exact fun h => h.2
theorem inv255 : ∀ x : Fin 256, (255 : Int32) &&& (Int32.ofNat x.val ^^^ (-1)) = Int32.ofNat (255 ^^^ x.val) := by decide +kernel
theorem pm0 : (-1 : Int32) = nI 0 - nI 1 := by decide +kernel
section NOW
variable {R : Nat → Nat} {bA bB bZ bG bP bQ rK rL rG pS : Nat → Int32} {bC bM : Int32} {mN : Nat → Int32}
theorem c_filL (hR : RowOk R) (h : PlanOf R pS) : ∀ (n g : Nat), 8 < g + n → g ≤ 8 →
    f_X1_filledParcels_L4 pS n (nI (filN R g)) (nI g) = (nI (filN R 8), nI 8) ∧ k_X1_filledParcels_L4 pS n (nI (filN R g)) (nI g) := by
  intro n
  induction n with
  | zero => intro k h1 h2; omega
  | succ n ih =>
    intro g h1 h2
    rw [f_X1_filledParcels_L4, k_X1_filledParcels_L4, lit 8, pm0]
    by_cases h5 : g = 8
    · have g5 : nI 8 ≤ nI g := nI_le (by omega) (by omega)
      rw [if_pos g5, if_pos g5, h5]
      exact ⟨rfl, trivial⟩
    · have hg : g < 8 := by omega
      have g5 : ¬ nI 8 ≤ nI g := nI_ge hg (by omega)
      have hi := (hR.2.2.2.2.2.1 g hg).1
      have h7 := ih (g + 1) (by omega) (by omega)
      rw [filN] at h7
      rw [if_neg g5, if_neg g5, p_parcelOf h hg]
      by_cases h8 : R (136 + 4 * g) = 0
      · have g8 := (pm_eq (a := R (136 + 4 * g)) (q := 0) (by omega) (by omega)).mpr h8
        rw [if_pos h8] at h7
        rw [if_pos g8, if_pos g8, lit 1, nI_add]
        exact h7
      · have g8 : ¬ nI (R (136 + 4 * g)) - nI 1 = nI 0 - nI 1 := fun e => h8 ((pm_eq (by omega) (by omega)).mp e)
        rw [if_neg h8] at h7
        rw [if_neg g8, if_neg g8, nI_sub (by omega), lit 31, lit 1, nI_and, and31 (by omega), nI_shl (by omega), nI_or, nI_add]
        exact h7
theorem c_fil (hR : RowOk R) (h : PlanOf R pS) : f_X1_filledParcels pS = nI (parN R 8) ∧ k_X1_filledParcels pS := by
  obtain ⟨h1, h2⟩ := c_filL hR h FU 0 (by have := FU_big (n := 8) (by omega); omega) (by omega)
  rw [f_X1_filledParcels, k_X1_filledParcels, ← fil_par hR]
  exact ⟨congrArg Prod.fst h1, h2, trivial⟩
theorem m_parL (hR : RowOk R) (h : RowM R mN) : ∀ (n q : Nat), 8 < q + n → q ≤ 8 →
    f_X7_parcelsNow_L4 mN n (nI (parN R q)) (nI q) = (nI (parN R 8), nI 8) ∧ k_X7_parcelsNow_L4 mN n (nI (parN R q)) (nI q) := by
  have h4 : 2 ^ R 1 ≤ 2 ^ 8 := Nat.pow_le_pow_right (by omega) hR.1.2.2.1
  intro n
  induction n with
  | zero => intro k h1 h2; omega
  | succ n ih =>
    intro q h1 h2
    rw [f_X7_parcelsNow_L4, k_X7_parcelsNow_L4, lit 8]
    by_cases h5 : q = 8
    · have g5 : nI 8 ≤ nI q := nI_le (by omega) (by omega)
      rw [if_pos g5, if_pos g5, h5]
      exact ⟨rfl, trivial⟩
    · have hq : q < 8 := by omega
      have g5 : ¬ nI 8 ≤ nI q := nI_ge hq (by omega)
      have hi := inP_lt (R := R) q
      obtain ⟨i1, i2⟩ := m_inP hR h hq
      have h7 := ih (q + 1) (by omega) (by omega)
      rw [parN, bitsN] at h7
      rw [if_neg g5, if_neg g5, i1, lit 0]
      by_cases h8 : inP R q = 0
      · have g8 : nI (inP R q) = nI 0 := by rw [h8]
        rw [if_neg (by simp [h8])] at h7
        rw [if_pos g8, if_pos g8, lit 1, nI_add]
        exact ⟨h7.1, i2, h7.2⟩
      · have g8 : ¬ nI (inP R q) = nI 0 := fun e => h8 ((nI_eq (by omega) (by omega)).mp e)
        rw [if_pos (by simp [h8])] at h7
        rw [if_neg g8, if_neg g8, lit 31, lit 1, nI_and, and31 (by omega), nI_shl (by omega), nI_or, nI_add]
        exact ⟨h7.1, i2, h7.2⟩
theorem m_par (hR : RowOk R) (h : RowM R mN) : f_X7_parcelsNow mN = nI (parN R 8) ∧ k_X7_parcelsNow mN := by
  obtain ⟨h1, h2⟩ := m_parL hR h FU 0 (by have := FU_big (n := 8) (by omega); omega) (by omega)
  rw [f_X7_parcelsNow, k_X7_parcelsNow]
  exact ⟨congrArg Prod.fst h1, h2, trivial⟩
def pckN (R : Nat → Nat) : Nat := (2 ^ R 1 - 1) ^^^ inN R 0 (R 1)
theorem c_pck (hR : RowOk R) (h : PlanOf R pS) : f_X1_packedGoods pS = nI (pckN R) ∧ k_X1_packedGoods pS := by
  obtain ⟨i1, i2⟩ := c_in hR h (q := 0) (by omega)
  have h0 := hR.1.2.2.1
  have hl := inN_lt (R := R) (q := 0) 8
  rw [f_X1_packedGoods, k_X1_packedGoods, pm0, i1]
  refine ⟨?_, i2, trivial⟩
  rw [← pm0]
  refine (inv255 ⟨inN R 0 8, hl⟩).trans (congrArg nI ?_)
  apply Nat.eq_of_testBit_eq
  intro g
  rw [pckN, Nat.testBit_xor, Nat.testBit_xor, inN_tb, inN_tb, Nat.testBit_two_pow_sub_one, show (255 : Nat) = 2 ^ 8 - 1 from rfl, Nat.testBit_two_pow_sub_one]
  by_cases h2 : g < 8
  · by_cases h3 : g < R 1
    · simp [h2, h3]
    · have h4 := (hR.2.2.2.2.2.1 g h2).2 (by omega)
      simp [h2, h3, h4]
  · have h3 : ¬ g < R 1 := by omega
    simp [h2, h3]
theorem m_pck (hR : RowOk R) (h : RowM R mN) : ((1 <<< ((mN (Int32.toNatClampNeg 1)) &&& 31)) - 1) ^^^ (f_X7_inParcel (-1) mN) = nI (pckN R) ∧ k_X7_inParcel (-1) mN := by
  have h0 := hR.1.2.2.1
  have u3 : 1 ≤ 2 ^ R 1 := Nat.one_le_two_pow
  obtain ⟨i1, i2⟩ := m_in hR h (q := 0) (by omega)
  rw [pm0, i1, lit 31, lit 1, m_at h (i := 1) (by omega), nI_and, and31 (by omega), nI_shl (by omega), Nat.one_shiftLeft, nI_sub u3, nI_xor]
  exact ⟨rfl, i2⟩
theorem isIn01 (x a b : Int32) : f_X7_isIn x a b = 0 ∨ f_X7_isIn x a b = 1 := by
  rw [f_X7_isIn]; split
  · exact Or.inl rfl
  · split
    · exact Or.inl rfl
    · exact Or.inr rfl
theorem pred_toInt {n : Nat} (hn : n < 2 ^ 31) : (nI n - nI 1).toInt = (n : Int) - 1 := by
  cases n with
  | zero => decide +kernel
  | succ n => rw [nI_sub (by omega), nI_toInt (by omega)]; omega
/-- an int in a range, or not -/
theorem isIn_of (x : Int32) {a n : Nat} (ha : a < 2 ^ 31) (hn : n < 2 ^ 31) : (f_X7_isIn x (nI a) (nI n - nI 1) = 0 ∧ (∀ j : Nat, a ≤ j → j < n → ¬ x = nI j)) ∨ (∃ j : Nat, a ≤ j ∧ j < n ∧ x = nI j ∧ f_X7_isIn x (nI a) (nI n - nI 1) = 1) := by
  rw [f_X7_isIn]
  have t0 := pred_toInt hn
  have t1 := nI_toInt ha
  by_cases c1 : x < nI a
  · rw [if_pos c1]
    refine Or.inl ⟨rfl, ?_⟩
    intro j h1 h2 e
    rw [e] at c1
    exact absurd c1 (nI_nlt h1 (by omega))
  · rw [if_neg c1]
    rw [Int32.lt_iff_toInt_lt] at c1
    by_cases c2 : nI n - nI 1 < x
    · rw [if_pos c2]
      refine Or.inl ⟨rfl, ?_⟩
      intro j h1 h2 e
      rw [Int32.lt_iff_toInt_lt, e, nI_toInt (by omega)] at c2
      omega
    · rw [if_neg c2]
      rw [Int32.lt_iff_toInt_lt] at c2
      refine Or.inr ?_
      have c0 : ¬ x < 0 := by
        intro c0
        rw [Int32.lt_iff_toInt_lt] at c0
        have e0 : (0 : Int32).toInt = 0 := rfl
        omega
      obtain ⟨j, hj, e⟩ := nI_of c0
      subst e
      rw [nI_toInt hj] at c1 c2
      exact ⟨j, by omega, by omega, rfl, rfl⟩
theorem has_of (x : Int32) {n : Nat} (hn : n < 2 ^ 31) : ((if x < 0 then (0 : Int32) else (if nI n ≤ x then 0 else 1)) = 0 ∧ (∀ j : Nat, j < n → ¬ x = nI j)) ∨ (∃ j : Nat, j < n ∧ x = nI j ∧ (if x < 0 then (0 : Int32) else (if nI n ≤ x then 0 else 1)) = 1) := by
  by_cases c1 : x < 0
  · rw [if_pos c1]
    refine Or.inl ⟨rfl, fun j h e => ?_⟩
    rw [e] at c1
    exact nI_pos (by omega) c1
  · rw [if_neg c1]
    obtain ⟨j, hj, e⟩ := nI_of c1
    by_cases c2 : nI n ≤ x
    · rw [if_pos c2]
      refine Or.inl ⟨rfl, fun j h e => ?_⟩
      rw [e] at c2
      exact nI_ge h hn c2
    · rw [if_neg c2]
      refine Or.inr ⟨j, ?_, e, rfl⟩
      rcases Nat.lt_or_ge j n with h | h
      · exact h
      · rw [e] at c2; exact absurd (nI_le h hj) c2
theorem car_of (hR : RowOk R) (h : RowM R mN) (x : Int32) : (f_X0_hasCarrier x (nI (R 0)) = 0 ∧ f_X7_isCarrier x mN = 0) ∨ (∃ c : Nat, c < R 0 ∧ x = nI c ∧ f_X0_hasCarrier x (nI (R 0)) = 1 ∧ f_X7_isCarrier x mN = 1) := by
  have h0 := hR.1
  rw [f_X0_hasCarrier, f_X7_isCarrier, lit 0, lit 1, m_at h (i := 0) (by omega)]
  rcases has_of x (n := R 0) (by omega) with ⟨a1, a2⟩ | ⟨j, a1, a2, a3⟩
  · rcases isIn_of x (a := 0) (n := R 0) (by omega) (by omega) with ⟨b1, b2⟩ | ⟨j, b1, b2, b3, b4⟩
    · exact Or.inl ⟨a1, b1⟩
    · exact absurd b3 (a2 j b2)
  · rcases isIn_of x (a := 0) (n := R 0) (by omega) (by omega) with ⟨b1, b2⟩ | ⟨j', b1, b2, b3, b4⟩
    · exact absurd a2 (b2 j (by omega) a1)
    · exact Or.inr ⟨j, a1, a2, a3, b4⟩
theorem good_of (hR : RowOk R) (h : RowM R mN) (x : Int32) : (f_X0_hasGood x (nI (R 1)) = 0 ∧ f_X7_isGood x mN = 0) ∨ (∃ c : Nat, c < R 1 ∧ x = nI c ∧ f_X0_hasGood x (nI (R 1)) = 1 ∧ f_X7_isGood x mN = 1) := by
  have h0 := hR.1
  rw [f_X0_hasGood, f_X7_isGood, lit 0, lit 1, m_at h (i := 1) (by omega)]
  rcases has_of x (n := R 1) (by omega) with ⟨a1, a2⟩ | ⟨j, a1, a2, a3⟩
  · rcases isIn_of x (a := 0) (n := R 1) (by omega) (by omega) with ⟨b1, b2⟩ | ⟨j, b1, b2, b3, b4⟩
    · exact Or.inl ⟨a1, b1⟩
    · exact absurd b3 (a2 j b2)
  · rcases isIn_of x (a := 0) (n := R 1) (by omega) (by omega) with ⟨b1, b2⟩ | ⟨j', b1, b2, b3, b4⟩
    · exact absurd a2 (b2 j (by omega) a1)
    · exact Or.inr ⟨j, a1, a2, a3, b4⟩
theorem set_of (hR : RowOk R) (h : RowM R mN) (x : Int32) : (f_X0_hasSet x (nI (R 1)) = 0 ∧ f_X7_isSet x mN = 0) ∨ (∃ S : Nat, 1 ≤ S ∧ S < 2 ^ R 1 ∧ x = nI S ∧ f_X0_hasSet x (nI (R 1)) = 1 ∧ f_X7_isSet x mN = 1) := by
  have h0 := hR.1
  have u3 : 1 ≤ 2 ^ R 1 := Nat.one_le_two_pow
  obtain ⟨u1, u2⟩ := fullN (m := R 1) h0.2.2.1
  have e : f_X0_hasSet x (nI (R 1)) = f_X7_isIn x (nI 1) (nI (2 ^ R 1) - nI 1) := by rw [f_X0_hasSet, f_X7_isIn, u1, nI_sub u3, lit 1]
  rw [e, f_X7_isSet, lit 31, lit 1, m_at h (i := 1) (by omega), nI_and, and31 (by omega), nI_shl (by omega), Nat.one_shiftLeft]
  rcases isIn_of x (a := 1) (n := 2 ^ R 1) (by omega) (by omega) with ⟨b1, b2⟩ | ⟨j, b1, b2, b3, b4⟩
  · exact Or.inl ⟨b1, b1⟩
  · exact Or.inr ⟨j, b1, b2, b3, b4, b4⟩
theorem order_of (x y : Int32) : (f_X6_isOrder x y = 0 ∧ f_X7_isOrder x y = 0) ∨ (∃ pl dy : Nat, pl ≤ 3 ∧ dy ≤ 99 ∧ x = nI pl ∧ y = nI dy ∧ f_X6_isOrder x y = 1 ∧ f_X7_isOrder x y = 1) := by
  have e : f_X6_isOrder x y = f_X7_isOrder x y := by
    rw [f_X6_isOrder, f_X7_isOrder, f_X7_isIn, f_X7_isIn]
    by_cases c1 : x < 0
    · simp only [if_pos c1, if_true]
    · by_cases c2 : 3 < x
      · simp only [if_neg c1, if_pos c2, if_true]
      · have c4 : ¬ (1 : Int32) = 0 := by decide
        by_cases c5 : y < 0
        · simp only [if_neg c1, if_neg c2, if_neg c4, if_pos c5, if_true]
        · by_cases c6 : 99 < y
          · simp only [if_neg c1, if_neg c2, if_neg c4, if_neg c5, if_pos c6, if_true]
          · simp only [if_neg c1, if_neg c2, if_neg c4, if_neg c5, if_neg c6]
  have n4 : ¬ (1 : Int32) = 0 := by decide
  rw [e, f_X7_isOrder, lit 0, lit 3, lit 99, pm1 3, pm1 99]
  rcases isIn_of x (a := 0) (n := 3 + 1) (by omega) (by omega) with ⟨b1, b2⟩ | ⟨j, b1, b2, b3, b4⟩
  · rw [b1]; exact Or.inl ⟨rfl, rfl⟩
  · rcases isIn_of y (a := 0) (n := 99 + 1) (by omega) (by omega) with ⟨d1, d2⟩ | ⟨k, d1, d2, d3, d4⟩
    · rw [b4, d1]; exact Or.inl ⟨rfl, rfl⟩
    · rw [b4, d4]; exact Or.inr ⟨j, k, by omega, by omega, b3, d3, rfl, rfl⟩
end NOW
