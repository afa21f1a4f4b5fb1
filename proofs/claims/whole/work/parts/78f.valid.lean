/-! PURE, 35: lines in their ranges keep the row well -/
section VALID
variable {nc : Nat} {V w : Nat → Nat}
theorem lo_ge {c l i : Nat} (h : ∀ q : Nat, q < 5 → loT.getD (6 * q) 0 ≤ 1) (hl : l < 5) : loT.getD (6 * l + i) 0 ≤ loN V c l i := by
  rw [loN]
  split
  · rename_i q
    obtain ⟨q1, q2, q3⟩ := q
    subst q1; subst q2
    have := h 1 (by omega)
    rw [Nat.add_zero]; omega
  · split
    · rename_i q
      obtain ⟨q1, q2, q3⟩ := q
      subst q1; subst q2
      have := h 2 (by omega)
      rw [Nat.add_zero]; omega
    · exact Nat.le_refl _
theorem hi_le {c l i : Nat} : hiN V c l i ≤ hiT.getD (6 * l + i) 0 := by
  rw [hiN]
  split
  · exact Nat.zero_le _
  · exact Nat.le_refl _
theorem lo_tab : ∀ q : Nat, q < 5 → loT.getD (6 * q) 0 ≤ 1 := by decide
theorem v_0 (hV : VOk nc V) (hf : ¬ nc = 3) (w0 : 1 ≤ w 0 ∧ w 0 ≤ 99) (w1 : 1 ≤ w 1 ∧ w 1 ≤ 999) (w2 : 1 ≤ w 2 ∧ w 2 ≤ 99) (w3 : w 3 ≤ 99) (w4 : 1 ≤ w 4 ∧ w 4 ≤ 999) (w5 : w 5 ≤ 999) : VOk (nc + 1) (putL V (4 + 43 * nc) 6 w) := by
  obtain ⟨h1, h2, h3, h4, h5, h6, h7, h8, h9⟩ := hV
  refine ⟨by omega, ?_, ?_, ?_, ?_, ?_, ?_, ?_, ?_⟩
  · rw [putL_out (by omega)]; exact h2
  · intro c hc
    rw [putL_out (by omega), putL_out (by omega)]
    exact ⟨(h3 c hc).1, (h3 c hc).2.1, fun q => (h3 c hc).2.2 (by omega)⟩
  · intro c hc
    by_cases hcn : c = nc
    · subst hcn
      have e0 : putL V (4 + 43 * c) 6 w (4 + 43 * c) = w 0 := putL_in (i := 0) (by omega)
      have e1 : putL V (4 + 43 * c) 6 w (5 + 43 * c) = w 1 := by rw [show 5 + 43 * c = 4 + 43 * c + 1 by omega]; exact putL_in (by omega)
      have e2 : putL V (4 + 43 * c) 6 w (6 + 43 * c) = w 2 := by rw [show 6 + 43 * c = 4 + 43 * c + 2 by omega]; exact putL_in (by omega)
      have e3 : putL V (4 + 43 * c) 6 w (7 + 43 * c) = w 3 := by rw [show 7 + 43 * c = 4 + 43 * c + 3 by omega]; exact putL_in (by omega)
      have e4 : putL V (4 + 43 * c) 6 w (8 + 43 * c) = w 4 := by rw [show 8 + 43 * c = 4 + 43 * c + 4 by omega]; exact putL_in (by omega)
      have e5 : putL V (4 + 43 * c) 6 w (9 + 43 * c) = w 5 := by rw [show 9 + 43 * c = 4 + 43 * c + 5 by omega]; exact putL_in (by omega)
      rw [e0, e1, e2, e3, e4, e5]
      exact ⟨w0, w1, w2, w3, w4, w5⟩
    · rw [putL_out (by omega), putL_out (by omega), putL_out (by omega), putL_out (by omega), putL_out (by omega), putL_out (by omega)]
      exact h4 c (by omega)
  · intro c k hc hk
    rw [putL_out (by omega)] at hk
    have hb := h3 c (by omega)
    have hcn : c < nc := by
      rcases Nat.lt_or_ge c nc with q | q
      · exact q
      · have := (hb.2.2 q).1; omega
    rw [putL_out (by omega)]
    refine ⟨(h5 c k hcn hk).1, fun z hz => ?_⟩
    rw [putL_out (by omega)]; exact (h5 c k hcn hk).2 z hz
  · intro c k hc hk
    rw [putL_out (by omega)] at hk
    have hb := h3 c (by omega)
    have hcn : c < nc := by
      rcases Nat.lt_or_ge c nc with q | q
      · exact q
      · have := (hb.2.2 q).2; omega
    rw [putL_out (by omega)]
    refine ⟨(h6 c k hcn hk).1, fun z hz => ?_⟩
    rw [putL_out (by omega)]; exact (h6 c k hcn hk).2 z hz
  · intro g hg
    rw [putL_out (by omega)] at hg
    rw [putL_out (by omega), putL_out (by omega), putL_out (by omega)]; exact h7 g hg
  · intro g hg; rw [putL_out (by omega)]; exact h8 g hg
  · intro i i1 i2; rw [putL_out (by omega)]; exact h9 i i1 i2
theorem v_1 {m : Nat} (hV : VOk (m + 1) V) (hf : ¬ V (10 + 43 * m) = 5) (w0 : 1 ≤ w 0 ∧ w 0 ≤ 99) (w1 : ∀ z : Nat, z < 3 → w (z + 1) ≤ 999) : VOk (m + 1) (updN (putL V (11 + 43 * m + 4 * V (10 + 43 * m)) 4 w) (10 + 43 * m) (V (10 + 43 * m) + 1)) := by
  obtain ⟨h1, h2, h3, h4, h5, h6, h7, h8, h9⟩ := hV
  have hbm := h3 m (by omega)
  refine ⟨by omega, ?_, ?_, ?_, ?_, ?_, ?_, ?_, ?_⟩
  · rw [updN_ne (by omega), putL_out (by omega)]; exact h2
  · intro c hc
    rw [updN_ne (show 31 + 43 * c ≠ 10 + 43 * m by omega), putL_out (show 31 + 43 * c < 11 + 43 * m + 4 * V (10 + 43 * m) ∨ 11 + 43 * m + 4 * V (10 + 43 * m) + 4 ≤ 31 + 43 * c by rcases Nat.lt_trichotomy c m with q | q | q <;> omega)]
    by_cases hcm : c = m
    · subst hcm; rw [updN_eq]; exact ⟨by omega, hbm.2.1, fun q => by omega⟩
    · rw [updN_ne (by omega), putL_out (by omega)]; exact h3 c hc
  · intro c hc
    have X : ∀ j : Nat, j < 6 → updN (putL V (11 + 43 * m + 4 * V (10 + 43 * m)) 4 w) (10 + 43 * m) (V (10 + 43 * m) + 1) (4 + j + 43 * c) = V (4 + j + 43 * c) := fun j hj => by
      rw [updN_ne (by omega), putL_out (by omega)]
    have x0 := X 0 (by omega)
    have x1 := X 1 (by omega)
    have x2 := X 2 (by omega)
    have x3 := X 3 (by omega)
    have x4 := X 4 (by omega)
    have x5 := X 5 (by omega)
    simp only [Nat.reduceAdd] at x0 x1 x2 x3 x4 x5
    rw [x0, x1, x2, x3, x4, x5]
    exact h4 c hc
  · intro c k hc hk
    by_cases hcm : c = m
    · subst hcm
      rw [updN_eq] at hk
      rw [updN_ne (by omega)]
      by_cases hkk : k = V (10 + 43 * c)
      · subst hkk
        have e0 : putL V (11 + 43 * c + 4 * V (10 + 43 * c)) 4 w (11 + 43 * c + 4 * V (10 + 43 * c)) = w 0 := putL_in (i := 0) (by omega)
        rw [e0]
        refine ⟨w0, fun z hz => ?_⟩
        rw [updN_ne (by omega), show 12 + 43 * c + 4 * V (10 + 43 * c) + z = 11 + 43 * c + 4 * V (10 + 43 * c) + (z + 1) by omega, putL_in (by omega)]
        exact w1 z hz
      · rw [putL_out (by omega)]
        refine ⟨(h5 c k hc (by omega)).1, fun z hz => ?_⟩
        rw [updN_ne (by omega), putL_out (by omega)]; exact (h5 c k hc (by omega)).2 z hz
    · rw [updN_ne (by omega), putL_out (by omega)] at hk
      have hb := h3 c (by omega)
      rw [updN_ne (by omega), putL_out (by omega)]
      refine ⟨(h5 c k hc hk).1, fun z hz => ?_⟩
      rw [updN_ne (by omega), putL_out (by omega)]; exact (h5 c k hc hk).2 z hz
  · intro c k hc hk
    rw [updN_ne (by omega), putL_out (by rcases Nat.lt_trichotomy c m with q | q | q <;> omega)] at hk
    have hb := h3 c (by omega)
    rw [updN_ne (by omega), putL_out (by rcases Nat.lt_trichotomy c m with q | q | q <;> omega)]
    refine ⟨(h6 c k hc hk).1, fun z hz => ?_⟩
    rw [updN_ne (by rcases Nat.lt_trichotomy c m with q | q | q <;> omega), putL_out (by rcases Nat.lt_trichotomy c m with q | q | q <;> omega)]; exact (h6 c k hc hk).2 z hz
  · intro g hg
    rw [updN_ne (by omega), putL_out (by omega)] at hg
    rw [updN_ne (by omega), putL_out (by omega), updN_ne (by omega), putL_out (by omega), updN_ne (by omega), putL_out (by omega)]; exact h7 g hg
  · intro g hg; rw [updN_ne (by omega), putL_out (by omega)]; exact h8 g hg
  · intro i i1 i2; rw [updN_ne (by omega), putL_out (by omega)]; exact h9 i i1 i2
theorem v_2 {m : Nat} (hV : VOk (m + 1) V) (hf : ¬ V (31 + 43 * m) = 3) (w0 : w 0 ≤ 99) (w1 : ∀ z : Nat, z < 4 → w (z + 1) ≤ 3) : VOk (m + 1) (updN (putL V (32 + 43 * m + 5 * V (31 + 43 * m)) 5 w) (31 + 43 * m) (V (31 + 43 * m) + 1)) := by
  obtain ⟨h1, h2, h3, h4, h5, h6, h7, h8, h9⟩ := hV
  have hbm := h3 m (by omega)
  refine ⟨by omega, ?_, ?_, ?_, ?_, ?_, ?_, ?_, ?_⟩
  · rw [updN_ne (by omega), putL_out (by omega)]; exact h2
  · intro c hc
    rw [updN_ne (show 10 + 43 * c ≠ 31 + 43 * m by omega), putL_out (show 10 + 43 * c < 32 + 43 * m + 5 * V (31 + 43 * m) ∨ 32 + 43 * m + 5 * V (31 + 43 * m) + 5 ≤ 10 + 43 * c by rcases Nat.lt_trichotomy c m with q | q | q <;> omega)]
    by_cases hcm : c = m
    · subst hcm; rw [updN_eq]; exact ⟨hbm.1, by omega, fun q => by omega⟩
    · rw [updN_ne (by omega), putL_out (by omega)]; exact h3 c hc
  · intro c hc
    have X : ∀ j : Nat, j < 6 → updN (putL V (32 + 43 * m + 5 * V (31 + 43 * m)) 5 w) (31 + 43 * m) (V (31 + 43 * m) + 1) (4 + j + 43 * c) = V (4 + j + 43 * c) := fun j hj => by
      rw [updN_ne (by omega), putL_out (by rcases Nat.lt_trichotomy c m with q | q | q <;> omega)]
    have x0 := X 0 (by omega)
    have x1 := X 1 (by omega)
    have x2 := X 2 (by omega)
    have x3 := X 3 (by omega)
    have x4 := X 4 (by omega)
    have x5 := X 5 (by omega)
    simp only [Nat.reduceAdd] at x0 x1 x2 x3 x4 x5
    rw [x0, x1, x2, x3, x4, x5]
    exact h4 c hc
  · intro c k hc hk
    rw [updN_ne (by omega), putL_out (by rcases Nat.lt_trichotomy c m with q | q | q <;> omega)] at hk
    have hb := h3 c (by omega)
    rw [updN_ne (by rcases Nat.lt_trichotomy c m with q | q | q <;> omega), putL_out (by rcases Nat.lt_trichotomy c m with q | q | q <;> omega)]
    refine ⟨(h5 c k hc hk).1, fun z hz => ?_⟩
    rw [updN_ne (by rcases Nat.lt_trichotomy c m with q | q | q <;> omega), putL_out (by rcases Nat.lt_trichotomy c m with q | q | q <;> omega)]; exact (h5 c k hc hk).2 z hz
  · intro c k hc hk
    by_cases hcm : c = m
    · subst hcm
      rw [updN_eq] at hk
      rw [updN_ne (by omega)]
      by_cases hkk : k = V (31 + 43 * c)
      · subst hkk
        have e0 : putL V (32 + 43 * c + 5 * V (31 + 43 * c)) 5 w (32 + 43 * c + 5 * V (31 + 43 * c)) = w 0 := putL_in (i := 0) (by omega)
        rw [e0]
        refine ⟨w0, fun z hz => ?_⟩
        rw [updN_ne (by omega), show 33 + 43 * c + 5 * V (31 + 43 * c) + z = 32 + 43 * c + 5 * V (31 + 43 * c) + (z + 1) by omega, putL_in (by omega)]
        exact w1 z hz
      · rw [putL_out (by omega)]
        refine ⟨(h6 c k hc (by omega)).1, fun z hz => ?_⟩
        rw [updN_ne (by omega), putL_out (by omega)]; exact (h6 c k hc (by omega)).2 z hz
    · rw [updN_ne (by omega), putL_out (by omega)] at hk
      have hb := h3 c (by omega)
      rw [updN_ne (by rcases Nat.lt_trichotomy c m with q | q | q <;> omega), putL_out (by rcases Nat.lt_trichotomy c m with q | q | q <;> omega)]
      refine ⟨(h6 c k hc hk).1, fun z hz => ?_⟩
      rw [updN_ne (by rcases Nat.lt_trichotomy c m with q | q | q <;> omega), putL_out (by rcases Nat.lt_trichotomy c m with q | q | q <;> omega)]; exact (h6 c k hc hk).2 z hz
  · intro g hg
    rw [updN_ne (by omega), putL_out (by omega)] at hg
    rw [updN_ne (by omega), putL_out (by omega), updN_ne (by omega), putL_out (by omega), updN_ne (by omega), putL_out (by omega)]; exact h7 g hg
  · intro g hg; rw [updN_ne (by omega), putL_out (by omega)]; exact h8 g hg
  · intro i i1 i2; rw [updN_ne (by omega), putL_out (by omega)]; exact h9 i i1 i2
theorem v_3 (hV : VOk nc V) (hf : ¬ V 1 = 8) (w0 : 1 ≤ w 0 ∧ w 0 ≤ 99) (w1 : 1 ≤ w 1 ∧ w 1 ≤ 999) (w2 : 1 ≤ w 2 ∧ w 2 ≤ 999) : VOk nc (updN (putL V (133 + 4 * V 1) 3 w) 1 (V 1 + 1)) := by
  obtain ⟨h1, h2, h3, h4, h5, h6, h7, h8, h9⟩ := hV
  have X : ∀ i : Nat, 4 ≤ i → i < 133 → updN (putL V (133 + 4 * V 1) 3 w) 1 (V 1 + 1) i = V i := fun i i1 i2 => by rw [updN_ne (by omega), putL_out (by omega)]
  refine ⟨h1, ?_, ?_, ?_, ?_, ?_, ?_, ?_, ?_⟩
  · rw [updN_eq]; omega
  · intro c hc
    rw [X _ (by omega) (by omega), X _ (by omega) (by omega)]; exact h3 c hc
  · intro c hc
    rw [X _ (by omega) (by omega), X _ (by omega) (by omega), X _ (by omega) (by omega), X _ (by omega) (by omega), X _ (by omega) (by omega), X _ (by omega) (by omega)]; exact h4 c hc
  · intro c k hc hk
    rw [X _ (by omega) (by omega)] at hk
    have hb := h3 c (by omega)
    rw [X _ (by omega) (by omega)]
    refine ⟨(h5 c k hc hk).1, fun z hz => ?_⟩
    rw [X _ (by omega) (by omega)]; exact (h5 c k hc hk).2 z hz
  · intro c k hc hk
    rw [X _ (by omega) (by omega)] at hk
    have hb := h3 c (by omega)
    rw [X _ (by omega) (by omega)]
    refine ⟨(h6 c k hc hk).1, fun z hz => ?_⟩
    rw [X _ (by omega) (by omega)]; exact (h6 c k hc hk).2 z hz
  · intro g hg
    rw [updN_eq] at hg
    by_cases hgg : g = V 1
    · subst hgg
      have e0 : putL V (133 + 4 * V 1) 3 w (133 + 4 * V 1) = w 0 := putL_in (i := 0) (by omega)
      have e1 : putL V (133 + 4 * V 1) 3 w (134 + 4 * V 1) = w 1 := by rw [show 134 + 4 * V 1 = 133 + 4 * V 1 + 1 by omega]; exact putL_in (by omega)
      have e2 : putL V (133 + 4 * V 1) 3 w (135 + 4 * V 1) = w 2 := by rw [show 135 + 4 * V 1 = 133 + 4 * V 1 + 2 by omega]; exact putL_in (by omega)
      rw [updN_ne (by omega), updN_ne (by omega), updN_ne (by omega), e0, e1, e2]
      exact ⟨w0, w1, w2⟩
    · rw [updN_ne (by omega), putL_out (by omega), updN_ne (by omega), putL_out (by omega), updN_ne (by omega), putL_out (by omega)]; exact h7 g (by omega)
  · intro g hg; rw [updN_ne (by omega), putL_out (by omega)]; exact h8 g hg
  · intro i i1 i2; rw [updN_ne (by omega), putL_out (by omega)]; exact h9 i i1 i2
theorem v_4 (hV : VOk nc V) : VOk nc (putL V 2 2 w) := by
  obtain ⟨h1, h2, h3, h4, h5, h6, h7, h8, h9⟩ := hV
  have X : ∀ i : Nat, 4 ≤ i → putL V 2 2 w i = V i := fun i i1 => putL_out (by omega)
  refine ⟨h1, ?_, ?_, ?_, ?_, ?_, ?_, ?_, ?_⟩
  · rw [putL_out (by omega)]; exact h2
  · intro c hc; rw [X _ (by omega), X _ (by omega)]; exact h3 c hc
  · intro c hc
    rw [X _ (by omega), X _ (by omega), X _ (by omega), X _ (by omega), X _ (by omega), X _ (by omega)]; exact h4 c hc
  · intro c k hc hk
    rw [X _ (by omega)] at hk
    rw [X _ (by omega)]
    refine ⟨(h5 c k hc hk).1, fun z hz => ?_⟩
    rw [X _ (by omega)]; exact (h5 c k hc hk).2 z hz
  · intro c k hc hk
    rw [X _ (by omega)] at hk
    rw [X _ (by omega)]
    refine ⟨(h6 c k hc hk).1, fun z hz => ?_⟩
    rw [X _ (by omega)]; exact (h6 c k hc hk).2 z hz
  · intro g hg
    rw [putL_out (by omega)] at hg
    rw [X _ (by omega), X _ (by omega), X _ (by omega)]; exact h7 g hg
  · intro g hg; rw [X _ (by omega)]; exact h8 g hg
  · intro i i1 i2; rw [X _ (by omega)]; exact h9 i i1 i2
theorem v_next {l : Nat} (hl : l < 5) (hV : VOk nc V) (hc1 : l = 1 ∨ l = 2 → 1 ≤ nc) (hf : ¬ fullL nc V l) (hw : ∀ i : Nat, i < cntL l → loN V (nc - 1) l i ≤ w i ∧ w i ≤ hiN V (nc - 1) l i) : VOk (nextC nc l) (nextV nc l V w) := by
  have hr : ∀ i : Nat, i < cntL l → loT.getD (6 * l + i) 0 ≤ w i ∧ w i ≤ hiT.getD (6 * l + i) 0 := fun i hi => ⟨Nat.le_trans (lo_ge lo_tab hl) (hw i hi).1, Nat.le_trans (hw i hi).2 hi_le⟩
  rw [nextC, nextV]
  rcases (show l = 0 ∨ l = 1 ∨ l = 2 ∨ l = 3 ∨ l = 4 by omega) with rfl | rfl | rfl | rfl | rfl
  · exact v_0 hV (fun q => hf (Or.inl ⟨rfl, q⟩)) (hr 0 (by decide)) (hr 1 (by decide)) (hr 2 (by decide)) (hr 3 (by decide)).2 (hr 4 (by decide)) (hr 5 (by decide)).2
  · obtain ⟨m, rfl⟩ : ∃ m, nc = m + 1 := ⟨nc - 1, by have := hc1 (Or.inl rfl); omega⟩
    refine v_1 hV (fun q => hf (Or.inr (Or.inl ⟨rfl, q⟩))) (hr 0 (by decide)) (fun z hz => ?_)
    rcases (show z = 0 ∨ z = 1 ∨ z = 2 by omega) with rfl | rfl | rfl
    · exact (hr 1 (by decide)).2
    · exact (hr 2 (by decide)).2
    · exact (hr 3 (by decide)).2
  · obtain ⟨m, rfl⟩ : ∃ m, nc = m + 1 := ⟨nc - 1, by have := hc1 (Or.inr rfl); omega⟩
    refine v_2 hV (fun q => hf (Or.inr (Or.inr (Or.inl ⟨rfl, q⟩)))) (hr 0 (by decide)).2 (fun z hz => ?_)
    rcases (show z = 0 ∨ z = 1 ∨ z = 2 ∨ z = 3 by omega) with rfl | rfl | rfl | rfl
    · exact (hr 1 (by decide)).2
    · exact (hr 2 (by decide)).2
    · exact (hr 3 (by decide)).2
    · exact (hr 4 (by decide)).2
  · exact v_3 hV (fun q => hf (Or.inr (Or.inr (Or.inr ⟨rfl, q⟩)))) (hr 0 (by decide)) (hr 1 (by decide)) (hr 2 (by decide))
  · exact v_4 hV
end VALID
