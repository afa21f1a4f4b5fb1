/-! PURE, 45: what the class learns of a new book; begin anew -/
theorem ntz_of : ∀ s : Fin 256, s.val ≠ 0 → ∃ g : Fin 8, f_J6_numberOfTrailingZeros_0f7a4 (Int32.ofNat s.val) = Int32.ofNat g.val ∧ s.val.testBit g.val = true ∧ (Int32.ofNat s.val &&& (Int32.ofNat s.val - 1)) = Int32.ofNat (s.val ^^^ 2 ^ g.val) ∧ s.val ^^^ 2 ^ g.val < s.val := by decide +kernel
theorem sum_split {R : Nat → Nat} {w S g : Nat} (hg : S.testBit g = true) : ∀ m : Nat, sumN R w S m = sumN R w (S ^^^ 2 ^ g) m + if g < m then R (133 + 4 * g + w) else 0 := by
  intro m
  induction m with
  | zero => rw [sumN, sumN, if_neg (by omega)]
  | succ m ih =>
    rw [sumN, sumN, ih, Nat.testBit_xor, Nat.testBit_two_pow]
    by_cases h1 : g = m
    · subst h1
      rw [hg, if_neg (show ¬ g < g by omega), if_pos (show g < g + 1 by omega)]
      simp
    · have e : (S.testBit m ^^ decide (g = m)) = S.testBit m := by simp [h1]
      rw [e]
      by_cases h2 : g < m
      · have h3 : g < m + 1 := by omega
        rw [if_pos h2, if_pos h3]; omega
      · have h3 : ¬ g < m + 1 := by omega
        rw [if_neg h2, if_neg h3]
        omega
theorem sum_0 {R : Nat → Nat} {w : Nat} : ∀ m : Nat, sumN R w 0 m = 0 := by
  intro m
  induction m with
  | zero => rfl
  | succ m ih => rw [sumN, ih, Nat.zero_testBit]; rfl
section LEARN
variable {R : Nat → Nat} {bA bB bZ bG bP bQ : Nat → Int32} {bC bM : Int32}
theorem c_learnL (hR : RowOk R) (h : BookC R bA bB bZ bG bP bQ bC bM) : ∀ (n s : Nat) (rK rL : Nat → Int32), 2 ^ R 1 < s + n → 1 ≤ s → s ≤ 2 ^ R 1 → (∀ T : Nat, T < s → rK T = nI (sumS R 0 T) ∧ rL T = nI (sumS R 1 T)) →
    k_X2_learn_L2 bG bM n (nI s) rK rL ∧ ∀ T : Nat, T < 2 ^ R 1 → (f_X2_learn_L2 bG bM n (nI s) rK rL).2.1 T = nI (sumS R 0 T) ∧ (f_X2_learn_L2 bG bM n (nI s) rK rL).2.2 T = nI (sumS R 1 T) := by
  have h3 := hR.1.2.2.1
  have h4 : 2 ^ R 1 ≤ 2 ^ 8 := Nat.pow_le_pow_right (by omega) h3
  have u3 : 1 ≤ 2 ^ R 1 := Nat.one_le_two_pow
  have hf : f_X0_fullSet bM = nI (2 ^ R 1 - 1) := by rw [h.2.1]; exact (fullN h3).1
  intro n
  induction n with
  | zero => intro s rK rL h1 h2 h5; omega
  | succ n ih =>
    intro s rK rL h1 h2 h5 hs
    rw [f_X2_learn_L2, k_X2_learn_L2, hf]
    by_cases h6 : s = 2 ^ R 1
    · have g6 : nI (2 ^ R 1 - 1) < nI s := nI_lt (by omega) (by omega)
      rw [if_pos g6, if_pos g6]
      exact ⟨trivial, fun T hT => hs T (by omega)⟩
    · have g6 : ¬ nI (2 ^ R 1 - 1) < nI s := nI_nlt (by omega) (by omega)
      obtain ⟨g, z1, z2, z3, z4⟩ := ntz_of ⟨s, by omega⟩ (show s ≠ 0 by omega)
      have z1' : f_J6_numberOfTrailingZeros_0f7a4 (nI s) = nI g.val := z1
      have z3' : nI s &&& (nI s - 1) = nI (s ^^^ 2 ^ g.val) := z3
      have z2' : s.testBit g.val = true := z2
      have z4' : s ^^^ 2 ^ g.val < s := z4
      have hg : g.val < R 1 := by
        rcases Nat.lt_or_ge g.val (R 1) with q | q
        · exact q
        · have : 2 ^ R 1 ≤ 2 ^ g.val := Nat.pow_le_pow_right (by omega) q
          rw [Nat.testBit_lt_two_pow (show s < 2 ^ g.val by omega)] at z2'
          cases z2'
      have e0 := b_goodNumber hR h (w := 0) hg (by omega)
      have e1 := b_goodNumber hR h (w := 1) hg (by omega)
      have q0 : sumS R 0 s = sumS R 0 (s ^^^ 2 ^ g.val) + R (133 + 4 * g.val + 0) := by rw [sumS, sumS, sum_split z2', if_pos hg]
      have q1 : sumS R 1 s = sumS R 1 (s ^^^ 2 ^ g.val) + R (133 + 4 * g.val + 1) := by rw [sumS, sumS, sum_split z2', if_pos hg]
      rw [if_neg g6, if_neg g6, z1', z3', st_in (by omega) (by omega), st_in (by omega) (by omega), at_in (by omega) (by omega), at_in (by omega) (by omega), (hs _ z4').1, (hs _ z4').2, lit 0, lit 1, e0, e1, nI_add, nI_add, nI_add, ← q0, ← q1]
      obtain ⟨r1, r2⟩ := ih (s + 1) (upd rK s (nI (sumS R 0 s))) (upd rL s (nI (sumS R 1 s))) (by omega) (by omega) (by omega) (by
        intro T hT
        by_cases t3 : T = s
        · subst t3; rw [upd_eq, upd_eq]; exact ⟨rfl, rfl⟩
        · rw [upd_ne t3, upd_ne t3]; exact hs T (by omega))
      exact ⟨r1, r2⟩
theorem c_longL (hR : RowOk R) (h : BookC R bA bB bZ bG bP bQ bC bM) {c : Nat} (hc : c < R 0) : ∀ (n g : Nat), R 1 < g + n → g ≤ R 1 →
    f_X2_findLongGoods_L4 (nI (R (8 + 43 * c))) bG bM n (nI (longN R c g)) (nI g) = (nI (longN R c (R 1)), nI (R 1)) ∧ k_X2_findLongGoods_L4 (nI (R (8 + 43 * c))) bG bM n (nI (longN R c g)) (nI g) := by
  have h3 := hR.1.2.2.1
  have hb := (hR.2.1 c hc).2.2.2.2.1
  have hbM := h.2.1
  subst hbM
  intro n
  induction n with
  | zero => intro g h1 h2; omega
  | succ n ih =>
    intro g h1 h2
    rw [f_X2_findLongGoods_L4, k_X2_findLongGoods_L4, f_X0_goodCount]
    by_cases h5 : g = R 1
    · have g5 : nI (R 1) ≤ nI g := nI_le (by omega) (by omega)
      rw [if_pos g5, if_pos g5, h5]
      exact ⟨rfl, trivial⟩
    · have g5 : ¬ nI (R 1) ≤ nI g := nI_ge (by omega) (by omega)
      have hg : g < R 1 := by omega
      have e2 := b_goodNumber hR h (w := 2) hg (by omega)
      have hl := good_le hR (w := 2) hg (by omega)
      rw [show 133 + 4 * g + 2 = 135 + 4 * g by omega] at e2 hl
      have h7 := ih (g + 1) (by omega) (by omega)
      rw [longN] at h7
      rw [if_neg g5, if_neg g5, lit 2, e2]
      by_cases h8 : R (8 + 43 * c) < R (135 + 4 * g)
      · have hL : isLong R c g = true := decide_eq_true h8
        have g8 : ¬ nI (R (135 + 4 * g)) ≤ nI (R (8 + 43 * c)) := nI_ge h8 (by omega)
        rw [if_pos hL] at h7
        rw [if_neg g8, if_neg g8, lit 31, lit 1, nI_and, and31 (by omega), nI_shl (by omega), nI_or, nI_add]
        exact h7
      · have hL : ¬ isLong R c g = true := by rw [isLong, decide_eq_true_eq]; exact h8
        have g8 : nI (R (135 + 4 * g)) ≤ nI (R (8 + 43 * c)) := nI_le (by omega) (by omega)
        rw [if_neg hL] at h7
        rw [if_pos g8, if_pos g8, nI_1]
        exact h7
theorem c_longs (hR : RowOk R) (h : BookC R bA bB bZ bG bP bQ bC bM) (rK rL : Nat → Int32) : ∀ (n c : Nat) (rG : Nat → Int32), R 0 < c + n → c ≤ R 0 → (∀ j : Nat, j < c → rG j = nI (longN R j (R 1))) →
    k_X2_learn_L84 bA bG bC bM n (nI c) rK rL rG ∧ (f_X2_learn_L84 bA bG bC bM n (nI c) rK rL rG).2.1 = rK ∧ (f_X2_learn_L84 bA bG bC bM n (nI c) rK rL rG).2.2.1 = rL ∧ ∀ j : Nat, j < R 0 → (f_X2_learn_L84 bA bG bC bM n (nI c) rK rL rG).2.2.2 j = nI (longN R j (R 1)) := by
  have h0 := hR.1
  have hbC := h.1
  subst hbC
  intro n
  induction n with
  | zero => intro c rG h1 h2; omega
  | succ n ih =>
    intro c rG h1 h2 hs
    rw [f_X2_learn_L84, k_X2_learn_L84, f_X0_carrierCount]
    by_cases h5 : c = R 0
    · have g5 : nI (R 0) ≤ nI c := nI_le (by omega) (by omega)
      rw [if_pos g5, if_pos g5]
      exact ⟨trivial, rfl, rfl, fun j hj => hs j (by omega)⟩
    · have g5 : ¬ nI (R 0) ≤ nI c := nI_ge (by omega) (by omega)
      have hc : c < R 0 := by omega
      have e4 := b_carrierNumber hR h (j := 4) hc (by omega)
      rw [show 4 + 43 * c + 4 = 8 + 43 * c by omega] at e4
      obtain ⟨l1, l2⟩ := c_longL hR h hc FU 0 (by have := FU_big (n := R 1) (by omega); omega) (by omega)
      have e5 : f_X2_findLongGoods (nI (R (8 + 43 * c))) bG bM = nI (longN R c (R 1)) := congrArg Prod.fst l1
      rw [if_neg g5, if_neg g5, lit 4, e4, e5, st_in (by omega) (by omega), nI_1]
      obtain ⟨r1, r2⟩ := ih (c + 1) (upd rG c (nI (longN R c (R 1)))) (by omega) (by omega) (by
        intro j hj
        by_cases hjc : j = c
        · subst hjc; rw [upd_eq]
        · rw [upd_ne hjc]; exact hs j (by omega))
      exact ⟨⟨⟨l2, trivial⟩, r1⟩, r2⟩
theorem c_learn (hR : RowOk R) (h : BookC R bA bB bZ bG bP bQ bC bM) {rK rL : Nat → Int32} (rG : Nat → Int32) (z1 : rK 0 = nI 0) (z2 : rL 0 = nI 0) : k_X2_learn rK rL rG bA bG bC bM ∧ PricesC R (f_X2_learn rK rL rG bA bG bC bM).1 (f_X2_learn rK rL rG bA bG bC bM).2.1 (f_X2_learn rK rL rG bA bG bC bM).2.2 := by
  have h0 := hR.1
  have h4 : 2 ^ R 1 ≤ 2 ^ 8 := Nat.pow_le_pow_right (by omega) h0.2.2.1
  have u3 : 1 ≤ 2 ^ R 1 := Nat.one_le_two_pow
  obtain ⟨a1, a2⟩ := c_learnL hR h FU 1 rK rL (by have := FU_big (n := 2 ^ R 1) (by omega); omega) (by omega) (by omega) (by
    intro T hT
    have e : T = 0 := by omega
    subst e
    rw [sumS, sumS, sum_0, sum_0]; exact ⟨z1, z2⟩)
  obtain ⟨b1, b2, b3, b4⟩ := c_longs hR h (f_X2_learn_L2 bG bM FU (nI 1) rK rL).2.1 (f_X2_learn_L2 bG bM FU (nI 1) rK rL).2.2 FU 0 rG (by have := FU_big (n := R 0) (by omega); omega) (by omega) (fun j hj => by omega)
  rw [f_X2_learn, k_X2_learn, lit 0, lit 1]
  refine ⟨⟨a1, b1, trivial⟩, ?_, b4⟩
  rw [b2, b3]
  exact a2
theorem fillL {x : Int32} {n1 : Nat} (h1 : n1 < 2 ^ 31) : ∀ (n k : Nat) (w : Nat → Int32), n1 < k + n → k ≤ n1 → k_J7_fill_53178_L5 x n1 n (nI k) w ∧ ∀ j : Nat, (f_J7_fill_53178_L5 x n1 n (nI k) w).2 j = if k ≤ j ∧ j < n1 then x else w j := by
  intro n
  induction n with
  | zero => intro k w h2 h3; omega
  | succ n ih =>
    intro k w h2 h3
    rw [f_J7_fill_53178_L5, k_J7_fill_53178_L5]
    by_cases h5 : k = n1
    · have g5 : nI n1 ≤ nI k := nI_le (by omega) (by omega)
      rw [if_pos g5, if_pos g5]
      exact ⟨trivial, fun j => by rw [if_neg (by omega)]⟩
    · have g5 : ¬ nI n1 ≤ nI k := nI_ge (by omega) (by omega)
      rw [if_neg g5, if_neg g5, cl (show k < 2 ^ 31 by omega), nI_1]
      obtain ⟨r1, r2⟩ := ih (k + 1) (upd w k x) (by omega) (by omega)
      refine ⟨⟨vp_in_nI (by omega) h1, r1⟩, fun j => ?_⟩
      rw [r2 j]
      by_cases h4 : j = k
      · subst h4; rw [if_neg (by omega), if_pos (by omega), upd_eq]
      · rw [upd_ne h4]
        by_cases h6 : k + 1 ≤ j ∧ j < n1
        · rw [if_pos h6, if_pos (by omega)]
        · rw [if_neg h6, if_neg (by omega)]
theorem fillN {x : Int32} {n1 : Nat} (h1 : n1 < 4096) (w : Nat → Int32) : k_J7_fill_53178 x w n1 ∧ ∀ j : Nat, f_J7_fill_53178 x w n1 j = if j < n1 then x else w j := by
  obtain ⟨r1, r2⟩ := fillL (x := x) (n1 := n1) (by omega) FU 0 w (by have := FU_big h1; omega) (by omega)
  refine ⟨⟨r1, trivial⟩, fun j => (r2 j).trans ?_⟩
  by_cases h : j < n1
  · rw [if_pos (by omega), if_pos h]
  · rw [if_neg (by omega), if_neg h]
theorem c_begin (hR : RowOk R) (h : BookC R bA bB bZ bG bP bQ bC bM) (hz1 : ∀ g : Nat, g < 8 → R (136 + 4 * g) = 0) (hz2 : ∀ i : Nat, 165 ≤ i → i < 181 → R i = 0) {rK rL : Nat → Int32} (rG sZ pS : Nat → Int32) (sR : Nat → Int64) (z1 : rK 0 = nI 0) (z2 : rL 0 = nI 0) {bL bD : Int32} (hL : bL = nI (R 2)) (hD : bD = nI (R 3)) :
    k_X6_beginAnew rK rL rG sZ pS bA bG bC bM ∧ PricesC R (f_X6_beginAnew rK rL rG sZ pS bA bG bC bM bL bD).1 (f_X6_beginAnew rK rL rG sZ pS bA bG bC bM bL bD).2.1 (f_X6_beginAnew rK rL rG sZ pS bA bG bC bM bL bD).2.2.1 ∧ CacheOk R (f_X6_beginAnew rK rL rG sZ pS bA bG bC bM bL bD).2.2.2.1 sR ∧ PlanOf R (f_X6_beginAnew rK rL rG sZ pS bA bG bC bM bL bD).2.2.2.2.1 ∧ (f_X6_beginAnew rK rL rG sZ pS bA bG bC bM bL bD).2.2.2.2.2.1 = 0 ∧ (f_X6_beginAnew rK rL rG sZ pS bA bG bC bM bL bD).2.2.2.2.2.2 = 0 := by
  subst hL; subst hD
  obtain ⟨a1, a2⟩ := c_learn hR h rG z1 z2
  obtain ⟨b1, b2⟩ := fillN (x := M1) (n1 := 64) (by omega) sZ
  obtain ⟨u1, u2, u3, u4⟩ := c_unpack pS
  rw [f_X6_beginAnew, k_X6_beginAnew, k_X4_forget, f_X4_forget, f_X1_begin, k_X1_begin, f_X0_place, f_X0_day, f_X1_setOrder, neg1, show Int32.toNatClampNeg 24 = 24 from rfl, show Int32.toNatClampNeg 25 = 25 from rfl]
  refine ⟨⟨a1, ⟨b1, trivial⟩, ⟨u1, trivial⟩, trivial⟩, a2, fun Z hZ => Or.inl ?_, ⟨fun g hg => ?_, fun q hq => ?_, ?_, ?_⟩, rfl, rfl⟩
  · refine (b2 Z).trans ?_
    rw [if_pos hZ]
  · show upd (upd (f_X1_unpack pS) 24 (nI (R 2))) 25 (nI (R 3)) g = _
    rw [upd_ne (by omega), upd_ne (by omega), u2 g hg, hz1 g hg]
  · show upd (upd (f_X1_unpack pS) 24 (nI (R 2))) 25 (nI (R 3)) (8 + q) = _ ∧ upd (upd (f_X1_unpack pS) 24 (nI (R 2))) 25 (nI (R 3)) (16 + q) = _
    rw [upd_ne (by omega), upd_ne (by omega), upd_ne (by omega), upd_ne (by omega), u3 _ (by omega) (by omega), u3 _ (by omega) (by omega), hz2 _ (by omega) (by omega), hz2 _ (by omega) (by omega)]
    exact ⟨rfl, rfl⟩
  · show upd (upd (f_X1_unpack pS) 24 (nI (R 2))) 25 (nI (R 3)) 24 = _
    rw [upd_ne (by omega), upd_eq]
  · show upd (upd (f_X1_unpack pS) 24 (nI (R 2))) 25 (nI (R 3)) 25 = _
    rw [upd_eq]
end LEARN
