/-! PURE, 25: what can be undone: the ring and the snaps -/
theorem copyL {a b c n1 n2 : Nat} {gg : Nat → Int32} (h1 : a + c ≤ n1) (h2 : b + c ≤ n2) (h3 : n1 < 2 ^ 31) (h4 : n2 < 2 ^ 31) : ∀ (n k : Nat) (hh : Nat → Int32), c < k + n → k ≤ c →
    k_X6_copy_L3 (nI a) (nI b) (nI c) gg n1 n2 n (nI k) hh ∧ ∀ j : Nat, (f_X6_copy_L3 (nI a) (nI b) (nI c) gg n1 n2 n (nI k) hh).2 j = if b + k ≤ j ∧ j < b + c then gg (a + (j - b)) else hh j := by
  intro n
  induction n with
  | zero => intro k hh h5 h6; omega
  | succ n ih =>
    intro k hh h5 h6
    rw [f_X6_copy_L3, k_X6_copy_L3]
    by_cases h7 : k = c
    · have g7 : nI c ≤ nI k := nI_le (by omega) (by omega)
      rw [if_pos g7, if_pos g7]
      exact ⟨trivial, fun j => by rw [if_neg (by omega)]⟩
    · have g7 : ¬ nI c ≤ nI k := nI_ge (by omega) (by omega)
      rw [if_neg g7, if_neg g7, nI_add b k, nI_add a k, st_in (by omega) h4, at_in (by omega) h3, lit 1, nI_add]
      obtain ⟨r1, r2⟩ := ih (k + 1) (upd hh (b + k) (gg (a + k))) (by omega) (by omega)
      refine ⟨r1, fun j => ?_⟩
      rw [r2 j]
      by_cases h8 : j = b + k
      · subst h8
        rw [if_neg (by omega), if_pos (by omega), show a + (b + k - b) = a + k by omega]
        exact if_pos rfl
      · rw [show upd hh (b + k) (gg (a + k)) j = hh j from if_neg h8]
        by_cases h9 : b + (k + 1) ≤ j ∧ j < b + c
        · rw [if_pos h9, if_pos (by omega)]
        · rw [if_neg h9, if_neg (by omega)]
theorem copyN {a b c n1 n2 : Nat} {gg : Nat → Int32} (h1 : a + c ≤ n1) (h2 : b + c ≤ n2) (h3 : n1 < 2 ^ 31) (h4 : n2 < 2 ^ 31) (h5 : c < 4096) (hh : Nat → Int32) :
    k_X6_copy (nI a) (nI b) (nI c) gg hh n1 n2 ∧ ∀ j : Nat, f_X6_copy (nI a) (nI b) (nI c) gg hh n1 n2 j = if b ≤ j ∧ j < b + c then gg (a + (j - b)) else hh j := by
  obtain ⟨r1, r2⟩ := copyL (gg := gg) h1 h2 h3 h4 FU 0 hh (by have := FU_big h5; omega) (by omega)
  exact ⟨⟨r1, trivial⟩, r2⟩
theorem c_keep {n v : Nat} (hn : n < 10) (hv : v ≤ 10) (pS pE : Nat → Int32) : k_X1_keep pS pE (nI n) ∧ (∀ j : Nat, (f_X1_keep pS pE (nI n) (nI v)).1 j = if 26 * n ≤ j ∧ j < 26 * n + 26 then pS (j - 26 * n) else pE j) ∧ (f_X1_keep pS pE (nI n) (nI v)).2.1 = nI ((n + 1) % 10) ∧ (f_X1_keep pS pE (nI n) (nI v)).2.2 = nI (min (v + 1) 10) := by
  obtain ⟨r1, r2⟩ := copyN (a := 0) (b := n * 26) (c := 26) (n1 := 26) (n2 := 260) (gg := pS) (by omega) (by omega) (by omega) (by omega) (by omega) pE
  rw [k_X1_keep, f_X1_keep, lit 0, lit 26, lit 1, lit 10, nI_mul, nI_add, nI_add, nI_rem (by omega) (by omega), jmin]
  refine ⟨⟨r1, trivial⟩, fun j => ?_, rfl, ?_⟩
  · refine (r2 j).trans ?_
    rw [Nat.mul_comm n 26, Nat.zero_add]
  · show (if nI 10 < nI (v + 1) then nI 10 else nI (v + 1)) = _
    by_cases h : 10 < v + 1
    · rw [if_pos (nI_lt h (by omega)), show min (v + 1) 10 = 10 by omega]
    · rw [if_neg (nI_nlt (by omega) (by omega)), show min (v + 1) 10 = v + 1 by omega]
theorem m_snapW {v : Nat} (hv : v < 10) {mN : Nat → Int32} : ∀ (n k : Nat) (mS : Nat → Int32), 181 < k + n → k ≤ 181 →
    k_X7_snap_L52 mN n (nI k) mS (nI v) ∧ (f_X7_snap_L52 mN n (nI k) mS (nI v)).2.2 = nI v ∧ ∀ j : Nat, (f_X7_snap_L52 mN n (nI k) mS (nI v)).2.1 j = if 181 * v + k ≤ j ∧ j < 181 * v + 181 then mN (j - 181 * v) else mS j := by
  intro n
  induction n with
  | zero => intro k mS h5 h6; omega
  | succ n ih =>
    intro k mS h5 h6
    rw [f_X7_snap_L52, k_X7_snap_L52, lit 181]
    by_cases h7 : k = 181
    · have g7 : nI 181 ≤ nI k := nI_le (by omega) (by omega)
      rw [if_pos g7, if_pos g7]
      exact ⟨trivial, rfl, fun j => by rw [if_neg (by omega)]⟩
    · have g7 : ¬ nI 181 ≤ nI k := nI_ge (by omega) (by omega)
      rw [if_neg g7, if_neg g7, nI_mul, nI_add, cl (show 181 * v + k < 2 ^ 31 by omega), cl (show k < 2 ^ 31 by omega), lit 1, nI_add]
      obtain ⟨r1, r2, r3⟩ := ih (k + 1) (upd mS (181 * v + k) (mN k)) (by omega) (by omega)
      refine ⟨⟨vp_in_nI (by omega) (by omega), vp_in_nI (by omega) (by omega), r1⟩, r2, fun j => ?_⟩
      rw [r3 j]
      by_cases h8 : j = 181 * v + k
      · subst h8
        rw [if_neg (by omega), if_pos (by omega), show 181 * v + k - 181 * v = k by omega]
        exact if_pos rfl
      · rw [show upd mS (181 * v + k) (mN k) j = mS j from if_neg h8]
        by_cases h9 : 181 * v + (k + 1) ≤ j ∧ j < 181 * v + 181
        · rw [if_pos h9, if_pos (by omega)]
        · rw [if_neg h9, if_neg (by omega)]
theorem m_snapS : ∀ (n k : Nat) (mS : Nat → Int32), 1629 < k + n → k ≤ 1629 →
    k_X7_snap_L11 n (nI k) mS ∧ ∀ j : Nat, (f_X7_snap_L11 n (nI k) mS).2 j = if k ≤ j ∧ j < 1629 then mS (j + 181) else mS j := by
  intro n
  induction n with
  | zero => intro k mS h5 h6; omega
  | succ n ih =>
    intro k mS h5 h6
    rw [f_X7_snap_L11, k_X7_snap_L11, lit 181, lit 1629]
    by_cases h7 : k = 1629
    · have g7 : nI 1629 ≤ nI k := nI_le (by omega) (by omega)
      rw [if_pos g7, if_pos g7]
      exact ⟨trivial, fun j => by rw [if_neg (by omega)]⟩
    · have g7 : ¬ nI 1629 ≤ nI k := nI_ge (by omega) (by omega)
      rw [if_neg g7, if_neg g7, nI_add, cl (show k + 181 < 2 ^ 31 by omega), cl (show k < 2 ^ 31 by omega), lit 1, nI_add]
      obtain ⟨r1, r3⟩ := ih (k + 1) (upd mS k (mS (k + 181))) (by omega) (by omega)
      refine ⟨⟨vp_in_nI (by omega) (by omega), vp_in_nI (by omega) (by omega), r1⟩, fun j => ?_⟩
      rw [r3 j]
      by_cases h8 : j = k
      · subst h8
        rw [if_neg (by omega), if_pos (by omega)]
        exact if_pos rfl
      · by_cases h9 : k + 1 ≤ j ∧ j < 1629
        · rw [if_pos h9, if_pos (by omega)]; exact if_neg (by omega)
        · rw [if_neg h9, if_neg (by omega)]; exact if_neg h8
theorem m_snap {v : Nat} (hv : v ≤ 10) (mN mS : Nat → Int32) : k_X7_snap mN mS (nI v) ∧ (f_X7_snap mN mS (nI v)).2 = nI (min (v + 1) 10) ∧
    ∀ j : Nat, (f_X7_snap mN mS (nI v)).1 j = if 181 * (min v 9) ≤ j ∧ j < 181 * (min v 9) + 181 then mN (j - 181 * (min v 9)) else if v = 10 ∧ j < 1629 then mS (j + 181) else mS j := by
  rw [f_X7_snap, k_X7_snap, lit 10, lit 0, lit 1]
  by_cases h : v = 10
  · subst h
    obtain ⟨a1, a2⟩ := m_snapS FU 0 mS (by have := FU_big (n := 1629) (by omega); omega) (by omega)
    obtain ⟨b1, b2, b3⟩ := m_snapW (v := 9) (mN := mN) (by omega) FU 0 (f_X7_snap_L11 FU (nI 0) mS).2 (by have := FU_big (n := 181) (by omega); omega) (by omega)
    rw [if_pos rfl, if_pos rfl, nI_sub (by omega)]
    refine ⟨⟨a1, b1, trivial⟩, ?_, fun j => ?_⟩
    · show (f_X7_snap_L52 mN FU (nI 0) (f_X7_snap_L11 FU (nI 0) mS).2 (nI 9)).2.2 + nI 1 = _
      rw [b2, nI_add]; rfl
    · refine (b3 j).trans ?_
      rw [a2 j, show min 10 9 = 9 from rfl, Nat.add_zero]
      by_cases h9 : 181 * 9 ≤ j ∧ j < 181 * 9 + 181
      · rw [if_pos h9, if_pos h9]
      · rw [if_neg h9, if_neg h9]
        by_cases h10 : j < 1629
        · rw [if_pos (by omega), if_pos (by omega)]
        · rw [if_neg (by omega), if_neg (by omega)]
  · obtain ⟨b1, b2, b3⟩ := m_snapW (v := v) (mN := mN) (by omega) FU 0 mS (by have := FU_big (n := 181) (by omega); omega) (by omega)
    rw [if_neg (nI_ne (by omega) (by omega) h), if_neg (nI_ne (by omega) (by omega) h)]
    refine ⟨⟨b1, trivial⟩, ?_, fun j => ?_⟩
    · show (f_X7_snap_L52 mN FU (nI 0) mS (nI v)).2.2 + nI 1 = _
      rw [b2, nI_add, show min (v + 1) 10 = v + 1 by omega]
    · refine (b3 j).trans ?_
      rw [show min v 9 = v by omega, Nat.add_zero, if_neg (show ¬ (v = 10 ∧ j < 1629) by omega)]
def RingOk (R : Nat → Nat) (pE mS : Nat → Int32) (pN pK mV : Int32) : Prop := ∃ (S : Nat → Nat → Nat) (n v : Nat), n < 10 ∧ v ≤ 10 ∧ pN = nI n ∧ pK = nI v ∧ mV = nI v ∧
  ∀ k : Nat, k < v → RowOk (S k) ∧ BEq R (S k) ∧ (∀ i : Nat, i < 181 → mS (181 * k + i) = nI (S k i)) ∧ PlanOf (S k) (fun i => pE (26 * ((n + 10 - v + k) % 10) + i))
theorem plan_congr {R : Nat → Nat} {p1 p2 : Nat → Int32} (h : PlanOf R p1) (he : ∀ i : Nat, i < 26 → p2 i = p1 i) : PlanOf R p2 := by
  obtain ⟨h1, h2, h3, h4⟩ := h
  refine ⟨fun g hg => by rw [he g (by omega)]; exact h1 g hg, fun q hq => ?_, by rw [he 24 (by omega)]; exact h3, by rw [he 25 (by omega)]; exact h4⟩
  rw [he (8 + q) (by omega), he (16 + q) (by omega)]; exact h2 q hq
theorem ring_be {R R' : Nat → Nat} {pE mS : Nat → Int32} {pN pK mV : Int32} (h : BEq R R') (hr : RingOk R pE mS pN pK mV) : RingOk R' pE mS pN pK mV := by
  obtain ⟨S, n, v, h1, h2, h3, h4, h5, h6⟩ := hr
  exact ⟨S, n, v, h1, h2, h3, h4, h5, fun k hk => ⟨(h6 k hk).1, BEq_trans (BEq_symm h) (h6 k hk).2.1, (h6 k hk).2.2⟩⟩
theorem ring_keep {R : Nat → Nat} {pS pE mN mS : Nat → Int32} {pN pK mV : Int32} (hR : RowOk R) (hm : RowM R mN) (hl : PlanOf R pS) (hr : RingOk R pE mS pN pK mV) :
    k_X1_keep pS pE pN ∧ k_X7_snap mN mS mV ∧ RingOk R (f_X1_keep pS pE pN pK).1 (f_X7_snap mN mS mV).1 (f_X1_keep pS pE pN pK).2.1 (f_X1_keep pS pE pN pK).2.2 (f_X7_snap mN mS mV).2 := by
  obtain ⟨S, n, v, h1, h2, rfl, rfl, rfl, h6⟩ := hr
  obtain ⟨a1, a2, a3, a4⟩ := c_keep (n := n) (v := v) h1 h2 pS pE
  obtain ⟨b1, b2, b3⟩ := m_snap (v := v) h2 mN mS
  refine ⟨a1, b1, ?_⟩
  rw [a3, a4, b2]
  by_cases hv : v = 10
  · subst hv
    refine ⟨fun k => if k = 9 then R else S (k + 1), (n + 1) % 10, 10, by omega, by omega, rfl, rfl, rfl, fun k hk => ?_⟩
    by_cases h7 : k = 9
    · subst h7
      simp only [if_true]
      refine ⟨hR, fun _ _ _ _ _ => rfl, fun i hi => ?_, plan_congr hl (fun i hi => ?_)⟩
      · rw [b3, show min 10 9 = 9 from rfl, if_pos (by omega), show 181 * 9 + i - 181 * 9 = i by omega]; exact hm i hi
      · rw [a2, show ((n + 1) % 10 + 10 - 10 + 9) % 10 = n by omega, if_pos (by omega), show 26 * n + i - 26 * n = i by omega]
    · simp only [if_neg h7]
      obtain ⟨q1, q2, q3, q4⟩ := h6 (k + 1) (by omega)
      refine ⟨q1, q2, fun i hi => ?_, plan_congr q4 (fun i hi => ?_)⟩
      · rw [b3, show min 10 9 = 9 from rfl, if_neg (by omega), if_pos (by omega), show 181 * k + i + 181 = 181 * (k + 1) + i by omega]; exact q3 i hi
      · rw [a2, show ((n + 1) % 10 + 10 - 10 + k) % 10 = (n + 10 - 10 + (k + 1)) % 10 by omega, if_neg (by omega)]
  · rw [show min (v + 1) 10 = v + 1 by omega]
    refine ⟨fun k => if k = v then R else S k, (n + 1) % 10, v + 1, by omega, by omega, rfl, rfl, rfl, fun k hk => ?_⟩
    by_cases h7 : k = v
    · subst h7
      simp only [if_true]
      refine ⟨hR, fun _ _ _ _ _ => rfl, fun i hi => ?_, plan_congr hl (fun i hi => ?_)⟩
      · rw [b3, show min k 9 = k by omega, if_pos (by omega), show 181 * k + i - 181 * k = i by omega]; exact hm i hi
      · rw [a2, show ((n + 1) % 10 + 10 - (k + 1) + k) % 10 = n by omega, if_pos (by omega), show 26 * n + i - 26 * n = i by omega]
    · simp only [if_neg h7]
      obtain ⟨q1, q2, q3, q4⟩ := h6 k (by omega)
      refine ⟨q1, q2, fun i hi => ?_, plan_congr q4 (fun i hi => ?_)⟩
      · rw [b3, show min v 9 = v by omega, if_neg (by omega), if_neg (by omega)]; exact q3 i hi
      · rw [a2, show ((n + 1) % 10 + 10 - (v + 1) + k) % 10 = (n + 10 - v + k) % 10 by omega, if_neg (by omega)]
theorem m_backL {v : Nat} (hv : v ≤ 10) (h1 : 1 ≤ v) {mS : Nat → Int32} : ∀ (n k : Nat) (mN : Nat → Int32), 181 < k + n → k ≤ 181 →
    k_X7_undo_L26 mS (nI v) n (nI k) mN ∧ ∀ j : Nat, (f_X7_undo_L26 mS (nI v) n (nI k) mN).2 j = if k ≤ j ∧ j < 181 then mS (181 * (v - 1) + j) else mN j := by
  intro n
  induction n with
  | zero => intro k mN h5 h6; omega
  | succ n ih =>
    intro k mN h5 h6
    rw [f_X7_undo_L26, k_X7_undo_L26, lit 181, lit 1]
    by_cases h7 : k = 181
    · have g7 : nI 181 ≤ nI k := nI_le (by omega) (by omega)
      rw [if_pos g7, if_pos g7]
      exact ⟨trivial, fun j => by rw [if_neg (by omega)]⟩
    · have g7 : ¬ nI 181 ≤ nI k := nI_ge (by omega) (by omega)
      rw [if_neg g7, if_neg g7, nI_sub h1, nI_mul, nI_add, nI_add, cl (show 181 * (v - 1) + k < 2 ^ 31 by omega), cl (show k < 2 ^ 31 by omega)]
      obtain ⟨r1, r3⟩ := ih (k + 1) (upd mN k (mS (181 * (v - 1) + k))) (by omega) (by omega)
      refine ⟨⟨vp_in_nI (by omega) (by omega), vp_in_nI (by omega) (by omega), r1⟩, fun j => ?_⟩
      rw [r3 j]
      by_cases h8 : j = k
      · subst h8
        rw [if_neg (by omega), if_pos (by omega)]
        exact if_pos rfl
      · by_cases h9 : k + 1 ≤ j ∧ j < 181
        · rw [if_pos h9, if_pos (by omega)]
        · rw [if_neg h9, if_neg (by omega)]; exact if_neg h8
theorem t_undo {R : Nat → Nat} {pS pE mN mS : Nat → Int32} {pN pK mV : Int32} (hR : RowOk R) (hm : RowM R mN) (hl : PlanOf R pS) (hr : RingOk R pE mS pN pK mV) :
    (f_X6_undo pS pE pN pK).1 = (f_X7_undo mN mS mV).1 ∧ k_X6_undo pS pE pN pK ∧ k_X7_undo mN mS mV ∧ ∃ R' : Nat → Nat, BEq R R' ∧ RowOk R' ∧ RowM R' (f_X7_undo mN mS mV).2.1 ∧ PlanOf R' (f_X6_undo pS pE pN pK).2.1 ∧ RingOk R' pE mS (f_X6_undo pS pE pN pK).2.2.1 (f_X6_undo pS pE pN pK).2.2.2 (f_X7_undo mN mS mV).2.2.2 := by
  have hr0 := hr
  obtain ⟨S, n, v, h1, h2, rfl, rfl, rfl, h6⟩ := hr
  rw [f_X6_undo, f_X7_undo, k_X6_undo, k_X7_undo, f_X1_goBack, k_X1_goBack, lit 0, lit 1, lit 10, lit 26, nI_add]
  by_cases h3 : v = 0
  · subst h3
    have g3 : ¬ nI 1 ≤ nI 0 := nI_ge (by omega) (by omega)
    simp only [if_neg g3, if_true]
    exact ⟨trivial, ⟨trivial, trivial⟩, trivial, R, fun _ _ _ _ _ => rfl, hR, hm, hl, hr0⟩
  · have g3 : nI 1 ≤ nI v := nI_le (by omega) (by omega)
    have g4 : ¬ nI v = nI 0 := nI_ne (by omega) (by omega) h3
    obtain ⟨q1, q2, q3, q4⟩ := h6 (v - 1) (by omega)
    obtain ⟨b1, b2⟩ := m_backL (v := v) h2 (by omega) (mS := mS) FU 0 mN (by have := FU_big (n := 181) (by omega); omega) (by omega)
    have es : (n + 10 - v + (v - 1)) % 10 = (n + 10 - 1) % 10 := by omega
    obtain ⟨a1, a2⟩ := copyN (a := (n + 10 - 1) % 10 * 26) (b := 0) (c := 26) (n1 := 260) (n2 := 26) (gg := pE) (by omega) (by omega) (by omega) (by omega) (by omega) pS
    simp only [if_pos g3, if_neg g4, if_neg n10]
    rw [nI_sub (a := n + 10) (b := 1) (by omega), nI_rem (by omega) (by omega), nI_mul, f_X1_keptCount, nI_sub (a := v) (b := 1) (by omega)]
    refine ⟨rfl, ⟨⟨a1, trivial⟩, trivial⟩, ⟨b1, trivial⟩, S (v - 1), q2, q1, fun i hi => ?_, plan_congr q4 (fun i hi => ?_), S, (n + 10 - 1) % 10, v - 1, by omega, by omega, rfl, rfl, rfl, fun k hk => ?_⟩
    · refine (b2 i).trans ?_
      rw [if_pos (by omega)]; exact q3 i hi
    · refine (a2 i).trans ?_
      rw [if_pos (by omega), es, Nat.sub_zero, Nat.mul_comm]
    · obtain ⟨s1, s2, s3, s4⟩ := h6 k (by omega)
      refine ⟨s1, BEq_trans (BEq_symm q2) s2, s3, ?_⟩
      rw [show ((n + 10 - 1) % 10 + 10 - (v - 1) + k) % 10 = (n + 10 - v + k) % 10 by omega]
      exact s4
