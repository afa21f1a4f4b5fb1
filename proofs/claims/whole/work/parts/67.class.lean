/-! PURE, 18: the class's splitSet -/
theorem sub_next : ∀ M s t : Nat, s &&& M = s → t &&& M = t → t < s → t ≤ (s - 1) &&& M := by
  intro M
  induction M using Nat.strongRecOn with
  | ind M ih =>
    intro s t hs ht hl
    rcases Nat.eq_zero_or_pos M with h0 | h0
    · subst h0; rw [Nat.and_zero] at hs; omega
    · have s2 : s / 2 &&& M / 2 = s / 2 := by rw [← Nat.and_div_two, hs]
      have t2 : t / 2 &&& M / 2 = t / 2 := by rw [← Nat.and_div_two, ht]
      have x2 : ((s - 1) &&& M) / 2 = (s - 1) / 2 &&& M / 2 := Nat.and_div_two
      have b0 : ∀ a : Nat, a &&& M = a → a % 2 = 1 → M % 2 = 1 := by
        intro a ha h1
        have h2 := congrArg (fun y => Nat.testBit y 0) ha
        simp only [Nat.testBit_and, Nat.testBit_zero] at h2
        rw [h1] at h2
        have h3 : a % 2 = 1 ∧ M % 2 = 1 := by simpa using h2
        exact h3.2
      have x0 : (s - 1) % 2 = 1 → M % 2 = 1 → ((s - 1) &&& M) % 2 = 1 := by
        intro h1 h2
        have h3 : ((s - 1) &&& M).testBit 0 = true := by rw [Nat.testBit_and, Nat.testBit_zero, Nat.testBit_zero, h1, h2]; rfl
        rw [Nat.testBit_zero] at h3
        simpa using h3
      by_cases h1 : s % 2 = 1
      · rw [show (s - 1) / 2 = s / 2 by omega, s2] at x2
        omega
      · have h3 := ih (M / 2) (by omega) (s / 2) (t / 2) s2 t2 (by omega)
        rw [show (s - 1) / 2 = s / 2 - 1 by omega] at x2
        rw [← x2] at h3
        by_cases h4 : t % 2 = 1
        · have := x0 (by omega) (b0 t ht h4)
          omega
        · omega
theorem low_of : ∀ S : Fin 256, S.val ≠ 0 → ∃ g : Fin 8, Int32.ofNat S.val &&& -Int32.ofNat S.val = Int32.ofNat (2 ^ g.val) ∧ S.val.testBit g.val = true ∧ ∀ h : Fin 8, S.val.testBit h.val = true → g.val ≤ h.val := by decide +kernel
theorem low_ofN {S : Nat} (hS : S < 256) (h0 : S ≠ 0) : ∃ g : Nat, g < 8 ∧ nI S &&& -(nI S) = nI (2 ^ g) ∧ S.testBit g = true ∧ ∀ h : Nat, S.testBit h = true → g ≤ h := by
  obtain ⟨g, h1, h2, h3⟩ := low_of ⟨S, hS⟩ h0
  exact ⟨g.val, g.isLt, h1, h2, fun h hh => h3 ⟨h, tb_lt hS hh⟩ hh⟩
theorem sub_iff {S P g : Nat} (h1 : S.testBit g = true) (h2 : ∀ h : Nat, S.testBit h = true → g ≤ h) : SubP S P ↔ ∃ u : Nat, u &&& (S ^^^ 2 ^ g) = u ∧ P = 2 ^ g ||| u := by
  constructor
  · rintro ⟨s1, g', s2, s3⟩
    have e : g' = g := Nat.le_antisymm (s3 g h1) (h2 g' (s1 g' s2))
    subst e
    refine ⟨P &&& (S ^^^ 2 ^ g'), ?_, ?_⟩
    · rw [Nat.and_assoc, Nat.and_self]
    · apply Nat.eq_of_testBit_eq
      intro i
      rw [Nat.testBit_or, Nat.testBit_and, Nat.testBit_xor, Nat.testBit_two_pow]
      by_cases h3 : g' = i
      · subst h3; simp [s2]
      · cases h4 : P.testBit i with
        | false => simp [h3]
        | true => simp [h3, s1 i h4]
  · rintro ⟨u, hu, rfl⟩
    refine ⟨fun i hi => ?_, g, ?_, h2⟩
    · rw [Nat.testBit_or, Nat.testBit_two_pow] at hi
      by_cases h3 : g = i
      · subst h3; exact h1
      · have h4 : u.testBit i = true := by simpa [h3] using hi
        rw [← hu, Nat.testBit_and, Nat.testBit_xor, Nat.testBit_two_pow] at h4
        simp [h3] at h4
        exact h4.2
    · rw [Nat.testBit_or, Nat.testBit_two_pow]; simp
theorem valN_lt {a : Nat → Nat} : ∀ n : Nat, (∀ g : Nat, g < n → a g < 32) → valN a n < 32 ^ n := by
  intro n
  induction n with
  | zero => intro _; exact Nat.one_pos
  | succ n ih =>
    intro h
    have h1 := ih (fun g hg => h g (by omega))
    have h2 := h n (by omega)
    rw [valN, Nat.pow_succ]
    omega
theorem onesN_lt (P : Nat) : onesN P < 32 ^ 8 := valN_lt 8 (fun g _ => by cases P.testBit g <;> decide)
theorem p40 : (32 : Nat) ^ 8 = 1099511627776 := by decide
theorem digN_lt {o : Nat → Option Nat} {S : Nat} {r : Nat → Nat} (h : RG S r) {g : Nat} (hg : g < 8) : digN o S r g < 32 := by
  rw [digN]
  split
  · rename_i h1
    have h2 := RG_le h g h1
    have h3 : caN o (setOf S r (r g)) < 3 := by
      rw [caN]
      split
      · omega
      · omega
    omega
  · omega
theorem BestS_lt {o : Nat → Option Nat} {S : Nat} {y : Nat × Nat} (h : BestS o S (some y)) : y.1 < 1000000 ∧ y.2 < 1099511627776 := by
  obtain ⟨h1, ⟨r, h2, h3, h4⟩, _⟩ := h
  refine ⟨h1, ?_⟩
  rw [← h4, ← p40]
  exact valN_lt 8 (fun g hg => digN_lt h2 hg)
def EncD (x : Option (Nat × Nat)) (l : Int32) (w : Int64) : Prop := match x with
  | none => l = M2
  | some y => l = nI y.1 ∧ w = lN y.2 ∧ y.1 < 2000000 ∧ y.2 < 10995116277760
theorem litL (n : Nat) : (OfNat.ofNat n : Int64) = lN n := rfl
section TRY
variable {o : Nat → Option Nat} {D : Nat → Option (Nat × Nat)} {sO sL : Nat → Int32} {sW sU : Nat → Int64}
theorem row_in {i : Nat} (h : i < 256) : f_X4_rowOf (nI i) sW = sW i := by
  rw [f_X4_rowOf, if_neg (nI_pos (by omega)), lit 256, if_neg (nI_ge h (by omega)), cl (by omega)]
theorem ones_in {i : Nat} (h : i < 256) : f_X4_onesOf (nI i) sU = sU i := by
  rw [f_X4_onesOf, if_neg (nI_pos (by omega)), lit 256, if_neg (nI_ge h (by omega)), cl (by omega)]
theorem c_L108 {S : Nat} (hS : S < 256) {x : Option (Nat × Nat)} {y : Nat × Nat} (hx : EncD x (sL S) (sW S)) (h1 : y.1 < 2000000) (h2 : y.2 < 10995116277760) (hle : ∀ z : Nat × Nat, x = some z → y.1 ≤ z.1) :
    k_X4_tryParcel_L108 (nI S) sL sW (nI y.1) (lN y.2) ∧ EncD (mixC x (some y)) ((f_X4_tryParcel_L108 (nI S) sL sW (nI y.1) (lN y.2)).1 S) ((f_X4_tryParcel_L108 (nI S) sL sW (nI y.1) (lN y.2)).2 S) ∧ ∀ j : Nat, j ≠ S → (f_X4_tryParcel_L108 (nI S) sL sW (nI y.1) (lN y.2)).1 j = sL j ∧ (f_X4_tryParcel_L108 (nI S) sL sW (nI y.1) (lN y.2)).2 j = sW j := by
  have v : vp_in (nI S) 256 := vp_in_nI hS (by omega)
  rw [f_X4_tryParcel_L108, k_X4_tryParcel_L108, cl (show S < 2 ^ 31 by omega), lit 0]
  have u1 : upd sL S (nI y.1) S = nI y.1 := if_pos rfl
  have u2 : vp_updL sW S (lN y.2) S = lN y.2 := if_pos rfl
  have u3 : ∀ j : Nat, j ≠ S → upd sL S (nI y.1) j = sL j ∧ vp_updL sW S (lN y.2) j = sW j := fun j hj => ⟨if_neg hj, if_neg hj⟩
  cases x with
  | none =>
    have e : sL S = M2 := hx
    rw [e, if_pos M2_neg, if_pos M2_neg]
    exact ⟨⟨v, v, v, trivial⟩, ⟨u1, u2, h1, h2⟩, u3⟩
  | some z =>
    obtain ⟨e1, e2, e3, e4⟩ := hx
    have g1 : ¬ nI z.1 < nI 0 := nI_nlt (by omega) (by omega)
    rw [e1, if_neg g1, if_neg g1, mixC]
    try simp only []
    by_cases h3 : y.1 < z.1
    · have g3 : nI y.1 < nI z.1 := nI_lt h3 (by omega)
      rw [if_pos g3, if_pos g3, if_pos (Or.inl h3)]
      exact ⟨⟨v, v, v, v, trivial⟩, ⟨u1, u2, h1, h2⟩, u3⟩
    · have g3 : ¬ nI y.1 < nI z.1 := nI_nlt (by omega) (by omega)
      have h5 : y.1 = z.1 := by have := hle z rfl; omega
      rw [if_neg g3, if_neg g3, e2]
      by_cases h4 : y.2 < z.2
      · have g4 : ¬ nI 0 ≤ lg_cmp (lN y.2) (lN z.2) := by
          rw [← lit 0, lg_cmp_ge, pk_lLE (by omega) (by omega)]; omega
        rw [if_neg g4, if_neg g4, if_pos (Or.inr ⟨h5, h4⟩)]
        exact ⟨⟨v, v, v, v, v, trivial⟩, ⟨u1, u2, h1, h2⟩, u3⟩
      · have g4 : nI 0 ≤ lg_cmp (lN y.2) (lN z.2) := by
          rw [← lit 0, lg_cmp_ge, pk_lLE (by omega) (by omega)]; omega
        rw [if_pos g4, if_pos g4, if_neg (by rintro (h | ⟨_, h⟩) <;> omega)]
        exact ⟨⟨v, v, v, trivial⟩, ⟨e1, e2, e3, e4⟩, fun j _ => ⟨rfl, rfl⟩⟩
/-- a parcel is tried -/
theorem c_try {S P : Nat} (hO : OffOk o) (hS : S < 256) (hS0 : S ≠ 0) (hP : P < 256) (hP0 : P ≠ 0) (ho : sO P = oI M1 (o P)) (hU : ∀ T : Nat, T < 256 → sU T = lN (onesN T)) {x : Option (Nat × Nat)} (hx : EncD x (sL S) (sW S))
    (hT : EncD (D (S ^^^ P)) (sL (S ^^^ P)) (sW (S ^^^ P))) (hB : ∀ y : Nat × Nat, D (S ^^^ P) = some y → y.1 < 1000000 ∧ y.2 < 1099511627776) :
    k_X4_tryParcel (nI S) (nI P) sO sL sW sU ∧ EncD (mixC x (candP o D S P)) ((f_X4_tryParcel (nI S) (nI P) sO sL sW sU).1 S) ((f_X4_tryParcel (nI S) (nI P) sO sL sW sU).2 S) ∧ ∀ j : Nat, j ≠ S → (f_X4_tryParcel (nI S) (nI P) sO sL sW sU).1 j = sL j ∧ (f_X4_tryParcel (nI S) (nI P) sO sL sW sU).2 j = sW j := by
  have v : vp_in (nI S) 256 := vp_in_nI hS (by omega)
  have hX : S ^^^ P < 256 := Nat.xor_lt_two_pow (n := 8) hS hP
  rw [f_X4_tryParcel, k_X4_tryParcel, nI_xor, at_in hP (by omega), at_in hX (by omega), row_in hX, ones_in hP, ones_in hX, hU P hP, hU _ hX, cl (show S < 2 ^ 31 by omega), ho, lit 0, lit 1, lit 256, litL 3]
  rw [candP]
  cases h1 : o P with
  | none =>
    rw [show oI M1 none = M1 from rfl, if_pos M1_neg, if_pos M1_neg]
    exact ⟨trivial, hx, fun j _ => ⟨rfl, rfl⟩⟩
  | some y =>
    have hy := hO P y h1
    have g1 : ¬ nI y < nI 0 := nI_nlt (by omega) (by omega)
    rw [show oI M1 (some y) = nI y from rfl, if_neg g1, if_neg g1]
    try simp only []
    cases h2 : D (S ^^^ P) with
    | none =>
      rw [h2] at hT
      have e : sL (S ^^^ P) = M2 := hT
      rw [e, if_pos M2_neg, if_pos M2_neg]
      exact ⟨trivial, hx, fun j _ => ⟨rfl, rfl⟩⟩
    | some t =>
      rw [h2] at hT
      obtain ⟨b1, b2⟩ := hB t h2
      obtain ⟨e1, e2, _, _⟩ := hT
      have g2 : ¬ nI t.1 < nI 0 := nI_nlt (by omega) (by omega)
      have g3 : ¬ nI S < nI 1 := nI_nlt (by omega) (by omega)
      have g4 : nI S < nI 256 := nI_lt hS (by omega)
      have n1 := onesN_lt P
      have n2 := onesN_lt (S ^^^ P)
      rw [p40] at n1 n2
      have n3 : y % 3 * onesN P ≤ 2 * 1099511627776 := Nat.mul_le_mul (by omega) (by omega)
      have c1 : f_X2_chargeOfOffer (nI y) = nI (y / 3) := by rw [f_X2_chargeOfOffer, lit 3, nI_div (by omega) (by omega)]
      have c2 : f_X2_carrierOfOffer (nI y) = nI (y % 3) := by rw [f_X2_carrierOfOffer, lit 3, nI_rem (by omega) (by omega)]
      rw [e1, e2, if_neg g2, if_neg g2, if_neg g3, if_neg g3, if_pos g4, if_pos g4, c1, c2, nI_l (by omega), nI_add, lN_mul, lN_mul, lN_add, lN_add]
      cases x with
      | none =>
        have e : sL S = M2 := hx
        have hL := c_L108 (y := (y / 3 + t.1, y % 3 * onesN P + t.2 + 3 * onesN (S ^^^ P))) hS hx (show y / 3 + t.1 < 2000000 by omega) (show y % 3 * onesN P + t.2 + 3 * onesN (S ^^^ P) < 10995116277760 by omega) (fun z hz => by cases hz)
        rw [e, if_pos M2_neg, if_pos M2_neg]
        exact ⟨⟨v, hL.1⟩, hL.2⟩
      | some z =>
        have e : sL S = nI z.1 := hx.1
        have g5 : ¬ nI z.1 < nI 0 := nI_nlt (by omega) (by have := hx.2.2.1; omega)
        have hz := hx.2.2.1
        rw [e, if_neg g5, if_neg g5]
        by_cases h6 : y / 3 + t.1 ≤ z.1
        · have g6 : nI (y / 3 + t.1) ≤ nI z.1 := nI_le h6 (by omega)
          have hL := c_L108 (y := (y / 3 + t.1, y % 3 * onesN P + t.2 + 3 * onesN (S ^^^ P))) hS hx (show y / 3 + t.1 < 2000000 by omega) (show y % 3 * onesN P + t.2 + 3 * onesN (S ^^^ P) < 10995116277760 by omega) (fun z' hz' => by cases hz'; exact h6)
          rw [if_pos g6, if_pos g6]
          exact ⟨⟨v, v, hL.1⟩, hL.2⟩
        · have g6 : ¬ nI (y / 3 + t.1) ≤ nI z.1 := nI_ge (by omega) (by omega)
          rw [if_neg g6, if_neg g6, mixC]
          try simp only []
          rw [if_neg (by rintro (h | ⟨h, _⟩) <;> omega)]
          exact ⟨⟨v, v, trivial⟩, hx, fun j _ => ⟨trivial, trivial⟩⟩
end TRY
