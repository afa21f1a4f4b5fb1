/-! PURE, 32: tokens as functions; both sides' tokens -/
noncomputable def tS (b : Nat → Nat) (t e : Nat) : Nat := skp b t FU e
noncomputable def tR (b : Nat → Nat) (t e : Nat) : Nat := rnE b t FU (tS b t e)
noncomputable def tKd (b : Nat → Nat) (t e : Nat) : Nat := if 700 < t ∧ 700 ≤ tS b t e then 1 else if t ≤ tS b t e then 0 else if isL (b (tS b t e)) = true ∨ isD (b (tS b t e)) = true then (if ndN b (tS b t e) (tR b t e - tS b t e) = 0 then 2 else if ndN b (tS b t e) (tR b t e - tS b t e) = tR b t e - tS b t e ∧ tR b t e - tS b t e ≤ 3 then 3 else 1) else if b (tS b t e) = 59 then 4 else 1
noncomputable def tSt (b : Nat → Nat) (t e : Nat) : Nat := min (tS b t e) (min t 700)
noncomputable def tEn (b : Nat → Nat) (t e : Nat) : Nat := if isL (b (tS b t e)) = true ∨ isD (b (tS b t e)) = true then tR b t e else tS b t e + 1
noncomputable def tNm (b : Nat → Nat) (t e : Nat) : Nat := dvN b (tS b t e) (tR b t e - tS b t e)
theorem run_pos {b : Nat → Nat} {t q : Nat} (hq : q < t) (h : isL (b q) = true ∨ isD (b q) = true) : q + 1 ≤ rnE b t FU q := by
  obtain ⟨n, hn⟩ : ∃ n, FU = n + 1 := ⟨4095, FU_eq⟩
  rw [hn, rnE, if_pos ⟨hq, h⟩]
  exact rnE_ge n (q + 1)
theorem run_none {b : Nat → Nat} {t q : Nat} (h : ¬ (isL (b q) = true ∨ isD (b q) = true)) : rnE b t FU q = q := by
  obtain ⟨n, hn⟩ : ∃ n, FU = n + 1 := ⟨4095, FU_eq⟩
  rw [hn, rnE, if_neg (fun g => h g.2)]
theorem L_nd0 {b : Nat → Nat} {s : Nat} : ∀ k : Nat, (∀ j : Nat, j < k → isL (b (s + j)) = true) ↔ ((∀ j : Nat, j < k → isL (b (s + j)) = true ∨ isD (b (s + j)) = true) ∧ ndN b s k = 0) := by
  intro k
  constructor
  · intro h
    refine ⟨fun j hj => Or.inl (h j hj), ?_⟩
    induction k with
    | zero => rfl
    | succ k ih => rw [ndN, ih (fun j hj => h j (by omega)), LD (h k (by omega))]; rfl
  · intro h; exact nd0_L k h.1 h.2
theorem D_ndK {b : Nat → Nat} {s : Nat} : ∀ k : Nat, (∀ j : Nat, j < k → isL (b (s + j)) = true ∨ isD (b (s + j)) = true) → ((∀ j : Nat, j < k → isL (b (s + j)) = false) ↔ ndN b s k = k) := by
  intro k
  induction k with
  | zero => intro _; exact ⟨fun _ => rfl, fun _ j hj => by omega⟩
  | succ k ih =>
    intro h
    have hi := ih (fun j hj => h j (by omega))
    have hk := ndN_le (b := b) (s := s) k
    rw [ndN]
    constructor
    · intro g
      have h1 := hi.mp (fun j hj => g j (by omega))
      have h2 : isD (b (s + k)) = true := by
        rcases h k (by omega) with h3 | h3
        · rw [g k (by omega)] at h3; cases h3
        · exact h3
      rw [if_pos h2, h1]
    · intro g j hj
      have h2 : isD (b (s + k)) = true := by
        cases hx : isD (b (s + k)) with
        | true => rfl
        | false => rw [hx] at g; simp only [Bool.false_eq_true, if_false] at g; omega
      rw [if_pos h2] at g
      rcases Nat.lt_succ_iff_lt_or_eq.mp hj with h3 | h3
      · exact hi.mpr (by omega) j h3
      · subst h3
        cases hx : isL (b (s + j)) with
        | false => rfl
        | true => rw [LD hx] at h2; cases h2
section TOK
variable {b : Nat → Nat} {t : Nat} {tB mA : Nat → Int32}
theorem tok_facts (h : TapeB b t tB mA) {e : Nat} (he : e ≤ t) : e ≤ tS b t e ∧ tS b t e ≤ t ∧ (2 ≤ tKd b t e → tS b t e < t ∧ (t ≤ 700 ∨ tS b t e < 700) ∧ tSt b t e = tS b t e ∧ tS b t e < tEn b t e ∧ tEn b t e ≤ t) ∧ (tKd b t e = 3 → tNm b t e < 1000) := by
  have h1 : e ≤ tS b t e := skp_ge FU e
  have h2 : tS b t e ≤ t := skp_le FU e he
  refine ⟨h1, h2, fun h3 => ?_, fun h3 => ?_⟩
  · rw [tKd] at h3
    by_cases c1 : 700 < t ∧ 700 ≤ tS b t e
    · rw [if_pos c1] at h3; omega
    · rw [if_neg c1] at h3
      by_cases c2 : t ≤ tS b t e
      · rw [if_pos c2] at h3; omega
      · refine ⟨by omega, by omega, by rw [tSt]; omega, ?_⟩
        rw [tEn]
        by_cases c3 : isL (b (tS b t e)) = true ∨ isD (b (tS b t e)) = true
        · rw [if_pos c3]
          exact ⟨run_pos (by omega) c3, rnE_le FU _ (by omega)⟩
        · rw [if_neg c3]; omega
  · rw [tKd] at h3
    by_cases c1 : 700 < t ∧ 700 ≤ tS b t e
    · rw [if_pos c1] at h3; omega
    · rw [if_neg c1] at h3
      by_cases c2 : t ≤ tS b t e
      · rw [if_pos c2] at h3; omega
      · rw [if_neg c2] at h3
        by_cases c3 : isL (b (tS b t e)) = true ∨ isD (b (tS b t e)) = true
        · rw [if_pos c3] at h3
          by_cases c4 : ndN b (tS b t e) (tR b t e - tS b t e) = 0
          · rw [if_pos c4] at h3; omega
          · rw [if_neg c4] at h3
            by_cases c5 : ndN b (tS b t e) (tR b t e - tS b t e) = tR b t e - tS b t e ∧ tR b t e - tS b t e ≤ 3
            · have := dvN_lt (b := b) (s := tS b t e) _ c5.1
              have h5 : (10 : Nat) ^ (tR b t e - tS b t e) ≤ 10 ^ 3 := Nat.pow_le_pow_right (by omega) c5.2
              rw [tNm]; omega
            · rw [if_neg c5] at h3; omega
        · rw [if_neg c3] at h3
          split at h3 <;> omega
theorem m_go (h : TapeB b t tB mA) {e : Nat} (he : e ≤ t) (mU : Int32) (mY : Int64) : k_X7_go mA (nI t) (nI e) ∧ ∃ (o u : Int32) (y : Int64), f_X7_go mA (nI t) (nI e) mU mY = (o, nI (tSt b t e), nI (tKd b t e), u, y) ∧
    (tKd b t e = 2 → o = nI (tEn b t e) ∧ y = lN (wvN b (tS b t e) (min (tEn b t e - tS b t e) 8)) ∧ ∀ j : Nat, j < tEn b t e - tS b t e → isL (b (tS b t e + j)) = true) ∧ (tKd b t e = 3 → o = nI (tEn b t e) ∧ u = nI (tNm b t e)) ∧ (tKd b t e = 4 → o = nI (tEn b t e)) := by
  have ht := h.1
  obtain ⟨s1, s2, _, _⟩ := tok_facts h he
  obtain ⟨l1, l2⟩ := m_skpL h FU e (by have := FU_big (n := t) (by omega); omega) he
  have l1' : f_X7_go_L0 mA (nI t) FU (nI e) = nI (tS b t e) := l1
  rw [f_X7_go, k_X7_go, l1', lit 700]
  by_cases h7 : t ≤ 700
  · have g7 : nI t ≤ nI 700 := nI_le h7 (by omega)
    have eSt : tSt b t e = tS b t e := by rw [tSt]; omega
    rw [if_pos g7, if_pos g7, eSt]
    by_cases h8 : tS b t e < t
    · have g8 : nI (tS b t e) < nI t := nI_lt h8 (by omega)
      have v : vp_in (nI (tS b t e)) 740 := vp_in_nI (by omega) (by omega)
      obtain ⟨b1, b2, b3⟩ := h.2 _ h8
      rw [if_pos g8, if_pos g8, cl (show tS b t e < 2 ^ 31 by omega), b2, mL b1, mD b1, lit 0]
      by_cases hLD : isL (b (tS b t e)) = true ∨ isD (b (tS b t e)) = true
      · obtain ⟨w1, K, v3, u', y', w2, w3, w4, w5, w6, w7⟩ := m_runL h (s := tS b t e) (v2 := if isL (b (tS b t e)) then nI 1 else nI 0) rfl FU 0 (nI 1) (nI 0) (lN 0) (by have := FU_big (n := t) (by omega); omega) (by omega) (fun j hj => by omega) (Or.inl ⟨fun j hj => by omega, rfl⟩) (fun _ _ => rfl) (fun _ => rfl)
        rw [Nat.add_zero] at w1 w2 w3
        have hK : tR b t e = tS b t e + K := w2.symm
        have hK1 : 1 ≤ K := by
          have : tS b t e + 1 ≤ tR b t e := run_pos (by omega) hLD
          omega
        have hKl : tR b t e ≤ t := rnE_le FU _ (by omega)
        have eEn : tEn b t e = tS b t e + K := by rw [tEn, if_pos hLD, hK]
        have eKd : tKd b t e = if ndN b (tS b t e) K = 0 then 2 else if ndN b (tS b t e) K = K ∧ K ≤ 3 then 3 else 1 := by
          rw [tKd, if_neg (by omega), if_neg (by omega), if_pos hLD, hK, show tS b t e + K - tS b t e = K by omega]
        have w1' : k_X7_go_L177 mA (nI t) FU (if isL (b (tS b t e)) then nI 1 else nI 0) 1 (nI (tS b t e)) (nI (tS b t e)) (nI 0) 0 := w1
        have w3' : f_X7_go_L177 mA (nI t) FU (if isL (b (tS b t e)) then nI 1 else nI 0) 1 (nI (tS b t e)) (nI (tS b t e)) (nI 0) 0 = _ := w3
        have fin : (f_X7_go_L312 (if isL (b (tS b t e)) then nI 1 else nI 0) v3 (nI (tS b t e + K)) (nI (tS b t e)) u' y') = (nI (tS b t e + K), nI (tS b t e), nI (tKd b t e), u', y') := by
          rw [f_X7_go_L312, lit 0, lit 1, lit 2, lit 3, nI_sub (show tS b t e ≤ tS b t e + K by omega), show tS b t e + K - tS b t e = K by omega, eKd]
          rcases w5 with ⟨g1, g2⟩ | ⟨g1, g2⟩
          · rw [g2, if_neg n10]
            by_cases hL : isL (b (tS b t e)) = true
            · have hn : ndN b (tS b t e) K = 0 := ((L_nd0 K).mp (fun j hj => by rw [g1 j hj, hL])).2
              rw [if_pos hL, if_neg n10, if_neg n10, if_pos hn]
            · have hL' : isL (b (tS b t e)) = false := by simpa using hL
              have hn : ndN b (tS b t e) K = K := (D_ndK K w4).mp (fun j hj => by rw [g1 j hj, hL'])
              rw [if_neg hL, if_pos rfl, if_pos rfl, hn, if_neg (show ¬ K = 0 by omega)]
              by_cases hK3 : K ≤ 3
              · rw [if_pos (nI_le hK3 (by omega)), if_pos ⟨rfl, hK3⟩]
              · rw [if_neg (nI_ge (by omega) (by omega)), if_neg (fun h => hK3 h.2)]
          · rw [g2, if_pos rfl]
            have n1 : ¬ ndN b (tS b t e) K = 0 := by
              intro e0
              have e1 := nd0_L K w4 e0
              exact g1 (fun j hj => by rw [e1 j hj]; have := e1 0 (by omega); rw [Nat.add_zero] at this; rw [this])
            have n2 : ¬ ndN b (tS b t e) K = K := by
              intro e0
              have e1 := (D_ndK K w4).mpr e0
              exact g1 (fun j hj => by rw [e1 j hj]; have := e1 0 (by omega); rw [Nat.add_zero] at this; rw [this])
            rw [if_neg n1, if_neg (fun h => n2 h.1)]
        have post : (tKd b t e = 2 → nI (tS b t e + K) = nI (tEn b t e) ∧ y' = lN (wvN b (tS b t e) (min (tEn b t e - tS b t e) 8)) ∧ ∀ j : Nat, j < tEn b t e - tS b t e → isL (b (tS b t e + j)) = true) ∧ (tKd b t e = 3 → nI (tS b t e + K) = nI (tEn b t e) ∧ u' = nI (tNm b t e)) ∧ (tKd b t e = 4 → nI (tS b t e + K) = nI (tEn b t e)) := by
          rw [eEn, show tS b t e + K - tS b t e = K by omega, eKd]
          refine ⟨fun q => ?_, fun q => ?_, fun _ => rfl⟩
          · have hn : ndN b (tS b t e) K = 0 := by
              by_cases x1 : ndN b (tS b t e) K = 0
              · exact x1
              · rw [if_neg x1] at q
                split at q <;> omega
            exact ⟨rfl, w7 hn, nd0_L K w4 hn⟩
          · have hn : ndN b (tS b t e) K = K ∧ K ≤ 3 := by
              by_cases x1 : ndN b (tS b t e) K = 0
              · rw [if_pos x1] at q; omega
              · rw [if_neg x1] at q
                by_cases x2 : ndN b (tS b t e) K = K ∧ K ≤ 3
                · exact x2
                · rw [if_neg x2] at q; omega
            refine ⟨rfl, ?_⟩
            rw [tNm, hK, show tS b t e + K - tS b t e = K by omega]
            exact w6 hn.1 hn.2
        by_cases hL : isL (b (tS b t e)) = true
        · simp only [if_pos hL, if_neg n10] at w1' w3' fin ⊢
          rw [w3', fin]
          exact ⟨⟨l2, v, w1', trivial⟩, _, _, _, rfl, post⟩
        · have hD : isD (b (tS b t e)) = true := hLD.resolve_left hL
          simp only [if_neg hL, if_pos hD, if_neg n10, if_true] at w1' w3' fin ⊢
          rw [w3', fin]
          exact ⟨⟨l2, v, w1', trivial⟩, _, _, _, rfl, post⟩
      · have hL : ¬ isL (b (tS b t e)) = true := fun q => hLD (Or.inl q)
        have hD : ¬ isD (b (tS b t e)) = true := fun q => hLD (Or.inr q)
        have eEn : tEn b t e = tS b t e + 1 := by rw [tEn, if_neg hLD]
        have eKd : tKd b t e = if b (tS b t e) = 59 then 4 else 1 := by
          rw [tKd, if_neg (by omega), if_neg (by omega), if_neg hLD]
        simp only [if_neg hL, if_neg hD, if_true]
        rw [eKd, eEn]
        by_cases h59 : b (tS b t e) = 59
        · have g59 : nI (b (tS b t e)) = 59 := (mL256 ⟨_, b1⟩).2.2.2.1.mpr h59
          rw [if_pos g59, if_pos h59, nI_1]
          exact ⟨⟨l2, v, trivial⟩, _, _, _, rfl, fun q => by omega, fun q => by omega, fun _ => rfl⟩
        · have g59 : ¬ nI (b (tS b t e)) = 59 := fun q => h59 ((mL256 ⟨_, b1⟩).2.2.2.1.mp q)
          rw [if_neg g59, if_neg h59, nI_1]
          exact ⟨⟨l2, v, trivial⟩, _, _, _, rfl, fun q => by omega, fun q => by omega, fun q => by omega⟩
    · have g8 : ¬ nI (tS b t e) < nI t := nI_nlt (by omega) (by omega)
      have eKd : tKd b t e = 0 := by rw [tKd, if_neg (by omega), if_pos (by omega)]
      rw [if_neg g8, if_neg g8, eKd]
      exact ⟨⟨l2, trivial⟩, _, _, _, rfl, fun q => by omega, fun q => by omega, fun q => by omega⟩
  · have g7 : ¬ nI t ≤ nI 700 := nI_ge (by omega) (by omega)
    rw [if_neg g7, if_neg g7]
    by_cases h9 : tS b t e < 700
    · have g9 : nI (tS b t e) < nI 700 := nI_lt h9 (by omega)
      have eSt : tSt b t e = tS b t e := by rw [tSt]; omega
      have h8 : tS b t e < t := by omega
      have g8 : nI (tS b t e) < nI t := nI_lt h8 (by omega)
      have v : vp_in (nI (tS b t e)) 740 := vp_in_nI (by omega) (by omega)
      obtain ⟨b1, b2, b3⟩ := h.2 _ h8
      rw [if_pos g9, if_pos g9, if_pos g8, if_pos g8, cl (show tS b t e < 2 ^ 31 by omega), b2, mL b1, mD b1, lit 0, eSt]
      by_cases hLD : isL (b (tS b t e)) = true ∨ isD (b (tS b t e)) = true
      · obtain ⟨w1, K, v3, u', y', w2, w3, w4, w5, w6, w7⟩ := m_runL h (s := tS b t e) (v2 := if isL (b (tS b t e)) then nI 1 else nI 0) rfl FU 0 (nI 1) (nI 0) (lN 0) (by have := FU_big (n := t) (by omega); omega) (by omega) (fun j hj => by omega) (Or.inl ⟨fun j hj => by omega, rfl⟩) (fun _ _ => rfl) (fun _ => rfl)
        rw [Nat.add_zero] at w1 w2 w3
        have hK : tR b t e = tS b t e + K := w2.symm
        have hK1 : 1 ≤ K := by
          have : tS b t e + 1 ≤ tR b t e := run_pos (by omega) hLD
          omega
        have hKl : tR b t e ≤ t := rnE_le FU _ (by omega)
        have eEn : tEn b t e = tS b t e + K := by rw [tEn, if_pos hLD, hK]
        have eKd : tKd b t e = if ndN b (tS b t e) K = 0 then 2 else if ndN b (tS b t e) K = K ∧ K ≤ 3 then 3 else 1 := by
          rw [tKd, if_neg (by omega), if_neg (by omega), if_pos hLD, hK, show tS b t e + K - tS b t e = K by omega]
        have w1' : k_X7_go_L177 mA (nI t) FU (if isL (b (tS b t e)) then nI 1 else nI 0) 1 (nI (tS b t e)) (nI (tS b t e)) (nI 0) 0 := w1
        have w3' : f_X7_go_L177 mA (nI t) FU (if isL (b (tS b t e)) then nI 1 else nI 0) 1 (nI (tS b t e)) (nI (tS b t e)) (nI 0) 0 = _ := w3
        have fin : (f_X7_go_L312 (if isL (b (tS b t e)) then nI 1 else nI 0) v3 (nI (tS b t e + K)) (nI (tS b t e)) u' y') = (nI (tS b t e + K), nI (tS b t e), nI (tKd b t e), u', y') := by
          rw [f_X7_go_L312, lit 0, lit 1, lit 2, lit 3, nI_sub (show tS b t e ≤ tS b t e + K by omega), show tS b t e + K - tS b t e = K by omega, eKd]
          rcases w5 with ⟨g1, g2⟩ | ⟨g1, g2⟩
          · rw [g2, if_neg n10]
            by_cases hL : isL (b (tS b t e)) = true
            · have hn : ndN b (tS b t e) K = 0 := ((L_nd0 K).mp (fun j hj => by rw [g1 j hj, hL])).2
              rw [if_pos hL, if_neg n10, if_neg n10, if_pos hn]
            · have hL' : isL (b (tS b t e)) = false := by simpa using hL
              have hn : ndN b (tS b t e) K = K := (D_ndK K w4).mp (fun j hj => by rw [g1 j hj, hL'])
              rw [if_neg hL, if_pos rfl, if_pos rfl, hn, if_neg (show ¬ K = 0 by omega)]
              by_cases hK3 : K ≤ 3
              · rw [if_pos (nI_le hK3 (by omega)), if_pos ⟨rfl, hK3⟩]
              · rw [if_neg (nI_ge (by omega) (by omega)), if_neg (fun h => hK3 h.2)]
          · rw [g2, if_pos rfl]
            have n1 : ¬ ndN b (tS b t e) K = 0 := by
              intro e0
              have e1 := nd0_L K w4 e0
              exact g1 (fun j hj => by rw [e1 j hj]; have := e1 0 (by omega); rw [Nat.add_zero] at this; rw [this])
            have n2 : ¬ ndN b (tS b t e) K = K := by
              intro e0
              have e1 := (D_ndK K w4).mpr e0
              exact g1 (fun j hj => by rw [e1 j hj]; have := e1 0 (by omega); rw [Nat.add_zero] at this; rw [this])
            rw [if_neg n1, if_neg (fun h => n2 h.1)]
        have post : (tKd b t e = 2 → nI (tS b t e + K) = nI (tEn b t e) ∧ y' = lN (wvN b (tS b t e) (min (tEn b t e - tS b t e) 8)) ∧ ∀ j : Nat, j < tEn b t e - tS b t e → isL (b (tS b t e + j)) = true) ∧ (tKd b t e = 3 → nI (tS b t e + K) = nI (tEn b t e) ∧ u' = nI (tNm b t e)) ∧ (tKd b t e = 4 → nI (tS b t e + K) = nI (tEn b t e)) := by
          rw [eEn, show tS b t e + K - tS b t e = K by omega, eKd]
          refine ⟨fun q => ?_, fun q => ?_, fun _ => rfl⟩
          · have hn : ndN b (tS b t e) K = 0 := by
              by_cases x1 : ndN b (tS b t e) K = 0
              · exact x1
              · rw [if_neg x1] at q
                split at q <;> omega
            exact ⟨rfl, w7 hn, nd0_L K w4 hn⟩
          · have hn : ndN b (tS b t e) K = K ∧ K ≤ 3 := by
              by_cases x1 : ndN b (tS b t e) K = 0
              · rw [if_pos x1] at q; omega
              · rw [if_neg x1] at q
                by_cases x2 : ndN b (tS b t e) K = K ∧ K ≤ 3
                · exact x2
                · rw [if_neg x2] at q; omega
            refine ⟨rfl, ?_⟩
            rw [tNm, hK, show tS b t e + K - tS b t e = K by omega]
            exact w6 hn.1 hn.2
        by_cases hL : isL (b (tS b t e)) = true
        · simp only [if_pos hL, if_neg n10] at w1' w3' fin ⊢
          rw [w3', fin]
          exact ⟨⟨l2, v, w1', trivial⟩, _, _, _, rfl, post⟩
        · have hD : isD (b (tS b t e)) = true := hLD.resolve_left hL
          simp only [if_neg hL, if_pos hD, if_neg n10, if_true] at w1' w3' fin ⊢
          rw [w3', fin]
          exact ⟨⟨l2, v, w1', trivial⟩, _, _, _, rfl, post⟩
      · have hL : ¬ isL (b (tS b t e)) = true := fun q => hLD (Or.inl q)
        have hD : ¬ isD (b (tS b t e)) = true := fun q => hLD (Or.inr q)
        have eEn : tEn b t e = tS b t e + 1 := by rw [tEn, if_neg hLD]
        have eKd : tKd b t e = if b (tS b t e) = 59 then 4 else 1 := by
          rw [tKd, if_neg (by omega), if_neg (by omega), if_neg hLD]
        simp only [if_neg hL, if_neg hD, if_true]
        rw [eKd, eEn]
        by_cases h59 : b (tS b t e) = 59
        · have g59 : nI (b (tS b t e)) = 59 := (mL256 ⟨_, b1⟩).2.2.2.1.mpr h59
          rw [if_pos g59, if_pos h59, nI_1]
          exact ⟨⟨l2, v, trivial⟩, _, _, _, rfl, fun q => by omega, fun q => by omega, fun _ => rfl⟩
        · have g59 : ¬ nI (b (tS b t e)) = 59 := fun q => h59 ((mL256 ⟨_, b1⟩).2.2.2.1.mp q)
          rw [if_neg g59, if_neg h59, nI_1]
          exact ⟨⟨l2, v, trivial⟩, _, _, _, rfl, fun q => by omega, fun q => by omega, fun q => by omega⟩
    · have g9 : ¬ nI (tS b t e) < nI 700 := nI_nlt (by omega) (by omega)
      have eSt : tSt b t e = 700 := by rw [tSt]; omega
      have eKd : tKd b t e = 1 := by rw [tKd, if_pos (by omega)]
      rw [if_neg g9, if_neg g9, eKd, eSt]
      exact ⟨⟨l2, trivial⟩, _, _, _, rfl, fun q => by omega, fun q => by omega, fun q => by omega⟩
theorem c_adv (h : TapeB b t tB mA) {e : Nat} (he : e ≤ t) (eU : Int32) : k_X3_advance tB (nI t) (nI e) ∧ ∃ (ck en : Nat) (u : Int32), f_X3_advance tB (nI t) (nI e) eU = (nI ck, nI (tSt b t e), nI en, u) ∧
    ((tKd b t e = 2 ∧ ck = 2 ∧ en = tEn b t e) ∨ (tKd b t e = 3 ∧ ck = 3 ∧ en = tEn b t e ∧ u = nI (tNm b t e)) ∨ (tKd b t e = 4 ∧ ck = 4 ∧ en = tEn b t e) ∨ (tKd b t e = 0 ∧ ck = 1 ∧ t ≤ 700) ∨ (tKd b t e = 1 ∧ (ck = 0 ∨ (ck = 1 ∧ 700 < t)))) := by
  have ht := h.1
  obtain ⟨s1, s2, _, _⟩ := tok_facts h he
  have hsk : skp b (min t 700) FU (min e (min t 700)) = tSt b t e := by
    rw [tSt]
    rcases Nat.lt_or_ge (min t 700) e with h1 | h1
    · have em : min e (min t 700) = min t 700 := by omega
      rw [em]
      have h2 := skp_ge (b := b) (lim := min t 700) FU (min t 700)
      have h3 := skp_le (b := b) (lim := min t 700) FU (min t 700) (Nat.le_refl _)
      omega
    · have em : min e (min t 700) = e := by omega
      rw [em]
      exact skp_min (by omega) FU e h1
  obtain ⟨l1, l2⟩ := c_skpL h (lim := min t 700) rfl FU (min e (min t 700)) (by have := FU_big (n := min t 700) (by omega); omega) (by omega)
  rw [hsk] at l1
  rw [f_X3_advance, k_X3_advance, f_X5_size, lit 700, jmin_nI (by omega) (by omega), jmin_nI (by omega) (by omega), l1]
  by_cases h7 : tS b t e < min t 700
  · have eSt : tSt b t e = tS b t e := by rw [tSt]; omega
    have g7 : nI (tS b t e) < nI (min t 700) := nI_lt h7 (by omega)
    rw [eSt, if_pos g7, if_pos g7]
    obtain ⟨r1, u', r2, r3⟩ := c_runL h (s := tS b t e) FU 0 (nI 0) (by have := FU_big (n := t) (by omega); omega) (by omega) (fun _ _ => rfl)
    rw [Nat.add_zero] at r1 r2 r3
    have r1' : k_X3_scanRun_L7 tB (nI t) FU 0 (nI (tS b t e)) 0 := r1
    have r2' : f_X3_scanRun_L7 tB (nI t) FU 0 (nI (tS b t e)) 0 = (nI (ndN b (tS b t e) (tR b t e - tS b t e)), nI (tR b t e), u') := r2
    have hRl : tR b t e ≤ t := rnE_le FU _ (by omega)
    have hRg : tS b t e ≤ tR b t e := rnE_ge FU _
    have hnd := ndN_le (b := b) (s := tS b t e) (tR b t e - tS b t e)
    obtain ⟨b1, b2, b3⟩ := h.2 (tS b t e) (by omega)
    refine ⟨⟨l2, ⟨r1', trivial⟩, trivial⟩, ?_⟩
    rw [f_X3_scanRun, f_X3_advance_L90, r2', c_byteAt h (by omega), nI_1]
    by_cases hLD : isL (b (tS b t e)) = true ∨ isD (b (tS b t e)) = true
    · have hK1 : tS b t e + 1 ≤ tR b t e := run_pos (by omega) hLD
      have eEn : tEn b t e = tR b t e := by rw [tEn, if_pos hLD]
      have gE : ¬ nI (tR b t e) = nI (tS b t e) := nI_ne (by omega) (by omega) (by omega)
      have eKd : tKd b t e = if ndN b (tS b t e) (tR b t e - tS b t e) = 0 then 2 else if ndN b (tS b t e) (tR b t e - tS b t e) = tR b t e - tS b t e ∧ tR b t e - tS b t e ≤ 3 then 3 else 1 := by
        rw [tKd, if_neg (by omega), if_neg (by omega), if_pos hLD]
      rw [eKd, eEn, lit 0, lit 3, nI_sub (show tS b t e ≤ tR b t e by omega)]
      by_cases n1 : ndN b (tS b t e) (tR b t e - tS b t e) = 0
      · have g1 : nI (ndN b (tS b t e) (tR b t e - tS b t e)) = nI 0 := by rw [n1]
        simp only [if_pos g1, if_pos n1, if_neg gE]
        exact ⟨2, tR b t e, u', rfl, Or.inl ⟨trivial, rfl, rfl⟩⟩
      · have g1 : ¬ nI (ndN b (tS b t e) (tR b t e - tS b t e)) = nI 0 := nI_ne (by omega) (by omega) n1
        by_cases n2 : ndN b (tS b t e) (tR b t e - tS b t e) = tR b t e - tS b t e
        · have g2 : nI (ndN b (tS b t e) (tR b t e - tS b t e)) = nI (tR b t e - tS b t e) := by rw [n2]
          by_cases n3 : tR b t e - tS b t e ≤ 3
          · have g3 : ¬ nI 3 < nI (ndN b (tS b t e) (tR b t e - tS b t e)) := nI_nlt (by omega) (by omega)
            simp only [if_neg g1, if_neg n1, if_pos g2, if_neg g3, if_neg gE, if_pos (show ndN b (tS b t e) (tR b t e - tS b t e) = tR b t e - tS b t e ∧ tR b t e - tS b t e ≤ 3 from ⟨n2, n3⟩)]
            exact ⟨3, tR b t e, u', rfl, Or.inr (Or.inl ⟨trivial, rfl, rfl, r3 n2 n3⟩)⟩
          · have g3 : nI 3 < nI (ndN b (tS b t e) (tR b t e - tS b t e)) := nI_lt (by omega) (by omega)
            simp only [if_neg g1, if_neg n1, if_pos g2, if_pos g3, if_neg gE, if_neg (show ¬ (ndN b (tS b t e) (tR b t e - tS b t e) = tR b t e - tS b t e ∧ tR b t e - tS b t e ≤ 3) from fun q => n3 q.2)]
            exact ⟨0, tR b t e, u', rfl, Or.inr (Or.inr (Or.inr (Or.inr ⟨trivial, Or.inl rfl⟩)))⟩
        · have g2 : ¬ nI (ndN b (tS b t e) (tR b t e - tS b t e)) = nI (tR b t e - tS b t e) := nI_ne (by omega) (by omega) n2
          simp only [if_neg g1, if_neg n1, if_neg g2, if_neg gE, if_neg (show ¬ (ndN b (tS b t e) (tR b t e - tS b t e) = tR b t e - tS b t e ∧ tR b t e - tS b t e ≤ 3) from fun q => n2 q.1)]
          exact ⟨0, tR b t e, u', rfl, Or.inr (Or.inr (Or.inr (Or.inr ⟨trivial, Or.inl rfl⟩)))⟩
    · have eR : tR b t e = tS b t e := run_none hLD
      have eEn : tEn b t e = tS b t e + 1 := by rw [tEn, if_neg hLD]
      have eKd : tKd b t e = if b (tS b t e) = 59 then 4 else 1 := by rw [tKd, if_neg (by omega), if_neg (by omega), if_neg hLD]
      have n0 : ndN b (tS b t e) (tR b t e - tS b t e) = 0 := by rw [eR, Nat.sub_self]; rfl
      have g1 : nI (ndN b (tS b t e) (tR b t e - tS b t e)) = 0 := by rw [n0]; rfl
      have gE : nI (tR b t e) = nI (tS b t e) := by rw [eR]
      simp only [if_pos g1, if_pos gE]
      rw [eKd, eEn]
      by_cases h59 : b (tS b t e) = 59
      · have g59 : jbyte (nI (b (tS b t e))) = 59 := (cL256 ⟨_, b1⟩).2.2.2.2.mpr h59
        rw [if_pos g59, if_pos h59]
        exact ⟨4, _, u', rfl, Or.inr (Or.inr (Or.inl ⟨rfl, rfl, rfl⟩))⟩
      · have g59 : ¬ jbyte (nI (b (tS b t e))) = 59 := fun q => h59 ((cL256 ⟨_, b1⟩).2.2.2.2.mp q)
        rw [if_neg g59, if_neg h59]
        exact ⟨0, _, u', rfl, Or.inr (Or.inr (Or.inr (Or.inr ⟨rfl, Or.inl rfl⟩)))⟩
  · have eSt : tSt b t e = min t 700 := by rw [tSt]; omega
    have g7 : ¬ nI (min t 700) < nI (min t 700) := nI_nlt (by omega) (by omega)
    rw [eSt, if_neg g7, if_neg g7]
    refine ⟨⟨l2, trivial⟩, 1, min t 700, eU, rfl, ?_⟩
    by_cases h8 : t ≤ 700
    · have eKd : tKd b t e = 0 := by rw [tKd, if_neg (by omega), if_pos (by omega)]
      exact Or.inr (Or.inr (Or.inr (Or.inl ⟨eKd, rfl, h8⟩)))
    · have eKd : tKd b t e = 1 := by rw [tKd, if_pos (by omega)]
      exact Or.inr (Or.inr (Or.inr (Or.inr ⟨eKd, Or.inr ⟨rfl, by omega⟩⟩)))
end TOK
