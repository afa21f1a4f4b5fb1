/-! PURE, 31: the model's run, tokens as functions, both sides' tokens -/
section RUN
variable {b : Nat → Nat} {t : Nat} {tB mA : Nat → Int32}
theorem m_tapeAt (h : TapeB b t tB mA) {q : Nat} (hq : q < t) : f_X7_tapeAt (nI q) mA (nI t) = nI (b q) ∧ k_X7_tapeAt (nI q) (nI t) := by
  have ht := h.1
  have g : ¬ nI t ≤ nI q := nI_ge hq (by omega)
  rw [f_X7_tapeAt, k_X7_tapeAt, if_neg g, if_neg g, cl (by omega), (h.2 q hq).2.1]
  exact ⟨rfl, vp_in_nI (by omega) (by omega), trivial⟩
theorem m_runS (h : TapeB b t tB mA) {s k : Nat} (hq : s + k < t) (hc : isL (b (s + k)) = true ∨ isD (b (s + k)) = true) (n : Nat) (v2 v3 u : Int32) (y : Int64) :
    f_X7_go_L177 mA (nI t) (n + 1) v2 v3 (nI (s + k)) (nI s) u y = f_X7_go_L177 mA (nI t) n v2 (if v3 = nI 0 then nI 0 else if (if isL (b (s + k)) then nI 1 else nI 0) = v2 then nI 1 else nI 0) (nI (s + k + 1)) (nI s) (if nI 3 ≤ nI k then u else 10 * u + nI (b (s + k)) - 48) (if nI 8 ≤ nI k then y else 27 * y + Int32.toInt64 (nI (b (s + k))) - 96) ∧
    (k_X7_go_L177 mA (nI t) n v2 (if v3 = nI 0 then nI 0 else if (if isL (b (s + k)) then nI 1 else nI 0) = v2 then nI 1 else nI 0) (nI (s + k + 1)) (nI s) (if nI 3 ≤ nI k then u else 10 * u + nI (b (s + k)) - 48) (if nI 8 ≤ nI k then y else 27 * y + Int32.toInt64 (nI (b (s + k))) - 96) → k_X7_go_L177 mA (nI t) (n + 1) v2 v3 (nI (s + k)) (nI s) u y) := by
  have ht := h.1
  obtain ⟨b1, b2, b3⟩ := h.2 (s + k) hq
  obtain ⟨a1, a2⟩ := m_tapeAt h hq
  have v : vp_in (nI (s + k)) 740 := vp_in_nI (by omega) (by omega)
  have w1 : (0 : Int32) = nI 0 := rfl
  have w2 : (1 : Int32) = nI 1 := rfl
  have w3 : (3 : Int32) = nI 3 := rfl
  have w4 : (8 : Int32) = nI 8 := rfl
  rw [f_X7_go_L177, k_X7_go_L177, a1, cl (show s + k < 2 ^ 31 by omega), b2, mL b1, mD b1, nI_sub (show s ≤ s + k by omega), show s + k - s = k by omega, w1, w2, w3, w4, nI_add]
  by_cases hL : isL (b (s + k)) = true
  · have vv : ∀ Q : Prop, Q → (k_X7_tapeAt (nI (s + k)) (nI t) ∧ vp_in (nI (s + k)) 740 ∧ Q) := fun Q q => ⟨a2, v, q⟩
    simp only [if_pos hL, if_neg n10]
    by_cases c1 : v3 = nI 0
    · skip
      by_cases c3 : nI 8 ≤ nI k
      · by_cases c4 : nI 3 ≤ nI k
        · simp only [if_pos c1, if_pos c3, if_pos c4]; exact ⟨trivial, vv _⟩
        · simp only [if_pos c1, if_pos c3, if_neg c4]; exact ⟨trivial, vv _⟩
      · by_cases c4 : nI 3 ≤ nI k
        · simp only [if_pos c1, if_neg c3, if_pos c4]; exact ⟨trivial, vv _⟩
        · simp only [if_pos c1, if_neg c3, if_neg c4]; exact ⟨trivial, vv _⟩
    · by_cases c2 : nI 1 = v2
      · skip
        by_cases c3 : nI 8 ≤ nI k
        · by_cases c4 : nI 3 ≤ nI k
          · simp only [if_neg c1, if_pos c2, if_pos c3, if_pos c4]; exact ⟨trivial, vv _⟩
          · simp only [if_neg c1, if_pos c2, if_pos c3, if_neg c4]; exact ⟨trivial, vv _⟩
        · by_cases c4 : nI 3 ≤ nI k
          · simp only [if_neg c1, if_pos c2, if_neg c3, if_pos c4]; exact ⟨trivial, vv _⟩
          · simp only [if_neg c1, if_pos c2, if_neg c3, if_neg c4]; exact ⟨trivial, vv _⟩
      · skip
        by_cases c3 : nI 8 ≤ nI k
        · by_cases c4 : nI 3 ≤ nI k
          · simp only [if_neg c1, if_neg c2, if_pos c3, if_pos c4]; exact ⟨trivial, vv _⟩
          · simp only [if_neg c1, if_neg c2, if_pos c3, if_neg c4]; exact ⟨trivial, vv _⟩
        · by_cases c4 : nI 3 ≤ nI k
          · simp only [if_neg c1, if_neg c2, if_neg c3, if_pos c4]; exact ⟨trivial, vv _⟩
          · simp only [if_neg c1, if_neg c2, if_neg c3, if_neg c4]; exact ⟨trivial, vv _⟩
  · have hD : isD (b (s + k)) = true := hc.resolve_left hL
    have vv : ∀ Q : Prop, Q → (k_X7_tapeAt (nI (s + k)) (nI t) ∧ k_X7_tapeAt (nI (s + k)) (nI t) ∧ vp_in (nI (s + k)) 740 ∧ Q) := fun Q q => ⟨a2, a2, v, q⟩
    simp only [if_neg hL, if_pos hD, if_neg n10, if_true]
    by_cases c1 : v3 = nI 0
    · skip
      by_cases c3 : nI 8 ≤ nI k
      · by_cases c4 : nI 3 ≤ nI k
        · simp only [if_pos c1, if_pos c3, if_pos c4]; exact ⟨trivial, vv _⟩
        · simp only [if_pos c1, if_pos c3, if_neg c4]; exact ⟨trivial, vv _⟩
      · by_cases c4 : nI 3 ≤ nI k
        · simp only [if_pos c1, if_neg c3, if_pos c4]; exact ⟨trivial, vv _⟩
        · simp only [if_pos c1, if_neg c3, if_neg c4]; exact ⟨trivial, vv _⟩
    · by_cases c2 : nI 0 = v2
      · skip
        by_cases c3 : nI 8 ≤ nI k
        · by_cases c4 : nI 3 ≤ nI k
          · simp only [if_neg c1, if_pos c2, if_pos c3, if_pos c4]; exact ⟨trivial, vv _⟩
          · simp only [if_neg c1, if_pos c2, if_pos c3, if_neg c4]; exact ⟨trivial, vv _⟩
        · by_cases c4 : nI 3 ≤ nI k
          · simp only [if_neg c1, if_pos c2, if_neg c3, if_pos c4]; exact ⟨trivial, vv _⟩
          · simp only [if_neg c1, if_pos c2, if_neg c3, if_neg c4]; exact ⟨trivial, vv _⟩
      · skip
        by_cases c3 : nI 8 ≤ nI k
        · by_cases c4 : nI 3 ≤ nI k
          · simp only [if_neg c1, if_neg c2, if_pos c3, if_pos c4]; exact ⟨trivial, vv _⟩
          · simp only [if_neg c1, if_neg c2, if_pos c3, if_neg c4]; exact ⟨trivial, vv _⟩
        · by_cases c4 : nI 3 ≤ nI k
          · simp only [if_neg c1, if_neg c2, if_neg c3, if_pos c4]; exact ⟨trivial, vv _⟩
          · simp only [if_neg c1, if_neg c2, if_neg c3, if_neg c4]; exact ⟨trivial, vv _⟩
theorem m_runL (h : TapeB b t tB mA) {s : Nat} {v2 : Int32} (hv2 : v2 = if isL (b s) then nI 1 else nI 0) : ∀ (n k : Nat) (v3 u : Int32) (y : Int64), t < s + k + n → s + k ≤ t → (∀ j : Nat, j < k → isL (b (s + j)) = true ∨ isD (b (s + j)) = true) →
    (((∀ j : Nat, j < k → isL (b (s + j)) = isL (b s)) ∧ v3 = nI 1) ∨ (¬ (∀ j : Nat, j < k → isL (b (s + j)) = isL (b s)) ∧ v3 = nI 0)) → (ndN b s k = k → k ≤ 3 → u = nI (dvN b s k)) → (ndN b s k = 0 → y = lN (wvN b s (min k 8))) →
    k_X7_go_L177 mA (nI t) n v2 v3 (nI (s + k)) (nI s) u y ∧ ∃ (K : Nat) (v3' u' : Int32) (y' : Int64), s + K = rnE b t n (s + k) ∧ f_X7_go_L177 mA (nI t) n v2 v3 (nI (s + k)) (nI s) u y = (v2, v3', nI (s + K), nI s, u', y') ∧ (∀ j : Nat, j < K → isL (b (s + j)) = true ∨ isD (b (s + j)) = true) ∧
      (((∀ j : Nat, j < K → isL (b (s + j)) = isL (b s)) ∧ v3' = nI 1) ∨ (¬ (∀ j : Nat, j < K → isL (b (s + j)) = isL (b s)) ∧ v3' = nI 0)) ∧ (ndN b s K = K → K ≤ 3 → u' = nI (dvN b s K)) ∧ (ndN b s K = 0 → y' = lN (wvN b s (min K 8))) := by
  have ht := h.1
  intro n
  induction n with
  | zero => intro k v3 u y h1 h2; omega
  | succ n ih =>
    intro k v3 u y h1 h2 hc h3 hu hy
    by_cases h4 : s + k < t ∧ (isL (b (s + k)) = true ∨ isD (b (s + k)) = true)
    · obtain ⟨e1, e2⟩ := m_runS h h4.1 h4.2 n v2 v3 u y
      rw [rnE, if_pos h4, e1]
      obtain ⟨b1, b2, b3⟩ := h.2 (s + k) h4.1
      have hnk := ndN_le (b := b) (s := s) k
      have r := ih (k + 1) (if v3 = nI 0 then nI 0 else if (if isL (b (s + k)) then nI 1 else nI 0) = v2 then nI 1 else nI 0) (if nI 3 ≤ nI k then u else 10 * u + nI (b (s + k)) - 48) (if nI 8 ≤ nI k then y else 27 * y + Int32.toInt64 (nI (b (s + k))) - 96) (by omega) (by omega) (by
          intro j hj
          rcases Nat.lt_succ_iff_lt_or_eq.mp hj with h5 | h5
          · exact hc j h5
          · rw [h5]; exact h4.2) (by
          rcases h3 with ⟨g1, g2⟩ | ⟨g1, g2⟩
          · rw [g2, if_neg n10]
            by_cases h6 : isL (b (s + k)) = isL (b s)
            · refine Or.inl ⟨fun j hj => ?_, ?_⟩
              · rcases Nat.lt_succ_iff_lt_or_eq.mp hj with h5 | h5
                · exact g1 j h5
                · rw [h5]; exact h6
              · rw [hv2, h6, if_pos rfl]
            · refine Or.inr ⟨fun g => h6 (g k (by omega)), ?_⟩
              rw [hv2]
              refine if_neg (fun e => h6 ?_)
              cases hx : isL (b (s + k)) <;> cases hz : isL (b s)
              · rfl
              · rw [hx, hz] at e; exact absurd e.symm n10
              · rw [hx, hz] at e; exact absurd e n10
              · rfl
          · rw [g2, if_pos rfl]
            exact Or.inr ⟨fun g => g1 (fun j hj => g j (by omega)), rfl⟩) (by
          intro h5 h6
          have hd : isD (b (s + k)) = true := by
            rw [ndN] at h5
            cases hx : isD (b (s + k)) with
            | true => rfl
            | false => rw [hx] at h5; simp only [Bool.false_eq_true, if_false] at h5; omega
          rw [ndN, if_pos hd] at h5
          have g3 : ¬ nI 3 ≤ nI k := nI_ge (by omega) (by omega)
          rw [if_neg g3, hu (by omega) (by omega), dvN]
          rw [isD, Bool.and_eq_true, decide_eq_true_eq, decide_eq_true_eq] at hd
          rw [lit 10, lit 48, nI_mul, nI_add, nI_sub (by omega)]
          congr 1; omega) (by
          intro h5
          have hd : isD (b (s + k)) = false := by
            rw [ndN] at h5
            cases hx : isD (b (s + k)) with
            | false => rfl
            | true => rw [hx, if_pos rfl] at h5; omega
          have hl : isL (b (s + k)) = true := by
            rcases h4.2 with h6 | h6
            · exact h6
            · rw [hd] at h6; cases h6
          rw [ndN, hd] at h5
          simp only [Bool.false_eq_true, if_false, Nat.add_zero] at h5
          have h6 := hy h5
          by_cases h7 : 8 ≤ k
          · rw [if_pos (nI_le h7 (by omega)), h6, show min (k + 1) 8 = min k 8 by omega]
          · rw [if_neg (nI_ge (by omega) (by omega)), h6, show min (k + 1) 8 = k + 1 by omega, show min k 8 = k by omega, wvN]
            rw [isL, Bool.and_eq_true, decide_eq_true_eq, decide_eq_true_eq] at hl
            rw [litL 27, litL 96, nI_l (by omega), lN_mul, lN_add, lN_sub (by omega)]
            congr 1; omega)
      rw [show s + (k + 1) = s + k + 1 by omega] at r
      obtain ⟨r1, r2⟩ := r
      exact ⟨e2 r1, r2⟩
    · rw [rnE, if_neg h4]
      refine ⟨?_, k, v3, u, y, rfl, ?_, hc, h3, hu, hy⟩
      · rw [k_X7_go_L177]
        by_cases h5 : s + k = t
        · have g5 : nI t ≤ nI (s + k) := nI_le (by omega) (by omega)
          have z1 : f_X7_tapeAt (nI (s + k)) mA (nI t) = 0 := by rw [f_X7_tapeAt, if_pos g5]
          have z2 : k_X7_tapeAt (nI (s + k)) (nI t) := by rw [k_X7_tapeAt, if_pos g5]; trivial
          have z3 : f_X7_isLetter 0 = 0 := by rw [f_X7_isLetter]; decide
          have z4 : f_X7_isDigit 0 = 0 := by rw [f_X7_isDigit]; decide
          rw [z1, z3, z4, if_pos rfl, if_pos rfl]
          exact ⟨z2, z2, trivial⟩
        · obtain ⟨b1, b2, b3⟩ := h.2 (s + k) (by omega)
          obtain ⟨a1, a2⟩ := m_tapeAt h (q := s + k) (by omega)
          have hL : ¬ isL (b (s + k)) = true := fun e => h4 ⟨by omega, Or.inl e⟩
          have hD : ¬ isD (b (s + k)) = true := fun e => h4 ⟨by omega, Or.inr e⟩
          rw [a1, mL b1, mD b1, if_neg hL, if_neg hD, lit 0, if_pos rfl, if_pos rfl]
          exact ⟨a2, a2, trivial⟩
      · rw [f_X7_go_L177]
        by_cases h5 : s + k = t
        · have g5 : nI t ≤ nI (s + k) := nI_le (by omega) (by omega)
          have z1 : f_X7_tapeAt (nI (s + k)) mA (nI t) = 0 := by rw [f_X7_tapeAt, if_pos g5]
          have z3 : f_X7_isLetter 0 = 0 := by rw [f_X7_isLetter]; decide
          have z4 : f_X7_isDigit 0 = 0 := by rw [f_X7_isDigit]; decide
          rw [z1, z3, z4, if_pos rfl, if_pos rfl]
        · obtain ⟨b1, b2, b3⟩ := h.2 (s + k) (by omega)
          obtain ⟨a1, a2⟩ := m_tapeAt h (q := s + k) (by omega)
          have hL : ¬ isL (b (s + k)) = true := fun e => h4 ⟨by omega, Or.inl e⟩
          have hD : ¬ isD (b (s + k)) = true := fun e => h4 ⟨by omega, Or.inr e⟩
          rw [a1, mL b1, mD b1, if_neg hL, if_neg hD, lit 0, if_pos rfl, if_pos rfl]
end RUN
