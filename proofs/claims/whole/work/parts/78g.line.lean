/-! PURE, 36: the numbers of a line; the class's line -/
noncomputable def rdN (b : Nat → Nat) (t : Nat) (lo hi : Nat → Nat) : Nat → Nat → (Nat → Nat) → Nat → Sum (Nat × Nat) ((Nat → Nat) × Nat)
  | 0, _, w, e => .inr (w, e)
  | n + 1, i, w, e => if tKd b t e = 3 then (if tNm b t e < lo i ∨ hi i < tNm b t e then .inl (2, tSt b t e) else rdN b t lo hi n (i + 1) (updN w i (tNm b t e)) (tEn b t e)) else .inl (1, tSt b t e)
theorem rdN_ok {b : Nat → Nat} {t : Nat} {tB mA : Nat → Int32} (h : TapeB b t tB mA) {lo hi : Nat → Nat} : ∀ (n i : Nat) (w : Nat → Nat) (e : Nat) (w' : Nat → Nat) (e' : Nat), e ≤ t → rdN b t lo hi n i w e = .inr (w', e') → e ≤ e' ∧ e' ≤ t ∧ (∀ j : Nat, j < i → w' j = w j) ∧ ∀ j : Nat, i ≤ j → j < i + n → lo j ≤ w' j ∧ w' j ≤ hi j := by
  intro n
  induction n with
  | zero =>
    intro i w e w' e' he hr
    rw [rdN] at hr
    cases hr
    exact ⟨Nat.le_refl _, he, fun j _ => rfl, fun j _ _ => by omega⟩
  | succ n ih =>
    intro i w e w' e' he hr
    rw [rdN] at hr
    by_cases h3 : tKd b t e = 3
    · rw [if_pos h3] at hr
      by_cases h4 : tNm b t e < lo i ∨ hi i < tNm b t e
      · rw [if_pos h4] at hr; cases hr
      · rw [if_neg h4] at hr
        obtain ⟨s1, s2, s3, _⟩ := tok_facts h he
        obtain ⟨s4, s5, s6, s7, s8⟩ := s3 (by omega)
        obtain ⟨r1, r2, r3, r4⟩ := ih (i + 1) _ _ w' e' s8 hr
        have ei : w' i = tNm b t e := by rw [r3 i (by omega), updN_eq]
        refine ⟨by omega, r2, fun j hj => ?_, fun j j1 j2 => ?_⟩
        · rw [r3 j (by omega), updN_ne (by omega)]
        · by_cases h5 : j = i
          · subst h5; rw [ei]; omega
          · exact r4 j (by omega) (by omega)
    · rw [if_neg h3] at hr; cases hr
section LINE
variable {b : Nat → Nat} {t : Nat} {tB mA : Nat → Int32} {nc : Nat} {V w : Nat → Nat} {dA dB dZ dG dP dQ eN : Nat → Int32} {dC dM dL dD : Int32}
theorem atS_cnt : ∀ l : Fin 5, f_X6_at_S (nI l.val) bgS3 = nI (cntL l.val) ∧ cntL l.val ≤ 6 := by
  have : ∀ l : Fin 5, (if nI l.val < 0 then (0 : Int32) else (if (nI bgS3.length) ≤ nI l.val then 0 else (sfn bgS3 (Int32.toNatClampNeg (nI l.val))))) = nI (cntL l.val) ∧ cntL l.val ≤ 6 := by decide +kernel
  exact this
theorem atS_lo : ∀ l : Fin 5, ∀ i : Fin 6, f_X6_at_S ((nI l.val * 6) + nI i.val) bgS4 = nI (loT.getD (6 * l.val + i.val) 0) ∧ f_X6_at_S ((nI l.val * 6) + nI i.val) bgS5 = nI (hiT.getD (6 * l.val + i.val) 0) ∧ loT.getD (6 * l.val + i.val) 0 ≤ 1 ∧ hiT.getD (6 * l.val + i.val) 0 ≤ 999 := by
  have : ∀ l : Fin 5, ∀ i : Fin 6, (if (nI l.val * 6) + nI i.val < 0 then (0 : Int32) else (if (nI bgS4.length) ≤ (nI l.val * 6) + nI i.val then 0 else (sfn bgS4 (Int32.toNatClampNeg ((nI l.val * 6) + nI i.val))))) = nI (loT.getD (6 * l.val + i.val) 0) ∧ (if (nI l.val * 6) + nI i.val < 0 then (0 : Int32) else (if (nI bgS5.length) ≤ (nI l.val * 6) + nI i.val then 0 else (sfn bgS5 (Int32.toNatClampNeg ((nI l.val * 6) + nI i.val))))) = nI (hiT.getD (6 * l.val + i.val) 0) ∧ loT.getD (6 * l.val + i.val) 0 ≤ 1 ∧ hiT.getD (6 * l.val + i.val) 0 ≤ 999 := by decide +kernel
  exact this
theorem c_counts (hV : VOk nc V) (h : DC nc V dA dB dZ dG dP dQ dC dM) (hc : 1 ≤ nc) : f_X0_breakCount ((f_X0_carrierCount dC) - 1) dP = nI (V (10 + 43 * (nc - 1))) ∧ f_X0_zonesCount ((f_X0_carrierCount dC) - 1) dQ = nI (V (31 + 43 * (nc - 1))) ∧ V (10 + 43 * (nc - 1)) ≤ 5 ∧ V (31 + 43 * (nc - 1)) ≤ 3 := by
  have hn := hV.1
  obtain ⟨h1, h2, h3, h4, h5, h6, h7⟩ := h
  subst h1
  have hm : nc - 1 < 3 := by omega
  rw [f_X0_carrierCount, pred_nc hc, f_X0_breakCount, f_X0_zonesCount, at_in hm (by omega), at_in hm (by omega), (h4 _ hm).1, (h4 _ hm).2]
  exact ⟨rfl, rfl, (hV.2.2.1 _ hm).1, (hV.2.2.1 _ hm).2.1⟩
theorem c_lo (hV : VOk nc V) (h : DC nc V dA dB dZ dG dP dQ dC dM) {l i : Nat} (hl : l < 5) (hi : i < 6) (hc : l = 1 ∨ l = 2 → 1 ≤ nc) : f_X3_lowest (nI l) (nI i) dB dZ dP dQ dC = nI (loN V (nc - 1) l i) ∧ loN V (nc - 1) l i ≤ 100 ∧ f_X3_highest (nI l) (nI i) dQ dC = nI (hiN V (nc - 1) l i) ∧ hiN V (nc - 1) l i ≤ 999 := by
  have hn := hV.1
  obtain ⟨t1, t2, t3, t4⟩ := atS_lo ⟨l, hl⟩ ⟨i, hi⟩
  simp only [] at t1 t2 t3 t4
  rw [f_X3_lowest, f_X3_highest, loN, hiN, t1, t2]
  by_cases l1 : l = 1
  · subst l1
    have hc1 := hc (Or.inl rfl)
    obtain ⟨k1, k2, k3, k4⟩ := c_counts hV h hc1
    have g1 : nI 1 = (1 : Int32) := rfl
    have g2 : ¬ nI 1 = (2 : Int32) := by decide
    rw [if_pos g1, if_neg g2, if_neg g2, k1, if_neg (show ¬ (1 = 2 ∧ i = 0 ∧ ¬ V (31 + 43 * (nc - 1)) = 0) by omega), if_neg (show ¬ (1 = 2 ∧ i = 0 ∧ V (31 + 43 * (nc - 1)) = 0) by omega)]
    by_cases i0 : i = 0
    · subst i0
      have g3 : nI 0 = (0 : Int32) := rfl
      rw [if_pos g3]
      by_cases n0 : V (10 + 43 * (nc - 1)) = 0
      · have g4 : nI (V (10 + 43 * (nc - 1))) ≤ 0 := by rw [n0]; decide
        rw [if_pos g4, if_neg (fun q => q.2.2 n0)]
        exact ⟨rfl, by omega, rfl, t4⟩
      · have g4 : ¬ nI (V (10 + 43 * (nc - 1))) ≤ 0 := nI_nle (by omega) (by omega)
        have hr := (hV.2.2.2.2.1 (nc - 1) (V (10 + 43 * (nc - 1)) - 1) (by omega) (by omega)).1
        obtain ⟨h1, h2, h3, h4, h5, h6, h7⟩ := h
        have e5 := h5 (nc - 1) (V (10 + 43 * (nc - 1)) - 1) 0 (by omega) (by omega) (by omega)
        have eb : f_X0_breakNumber ((f_X0_carrierCount dC) - 1) (nI (V (10 + 43 * (nc - 1))) - 1) 0 dB = nI (V (11 + 43 * (nc - 1) + 4 * (V (10 + 43 * (nc - 1)) - 1))) := by
          rw [h1, f_X0_carrierCount, pred_nc hc1, f_X0_breakNumber, f_X0_breakStart, lit 0, lit 1, lit 5, lit 4, nI_sub (show 1 ≤ V (10 + 43 * (nc - 1)) by omega), nI_mul, nI_add, nI_mul, nI_add, at_in (by omega) (by omega), show ((nc - 1) * 5 + (V (10 + 43 * (nc - 1)) - 1)) * 4 + 0 = 20 * (nc - 1) + 4 * (V (10 + 43 * (nc - 1)) - 1) + 0 by omega, e5]
          rfl
        rw [if_neg g4, if_pos ⟨rfl, rfl, n0⟩, eb, nI_1]
        exact ⟨rfl, by omega, rfl, t4⟩
    · have g3 : ¬ nI i = (0 : Int32) := nI_ne0 (by omega) (by omega)
      rw [if_neg g3, if_neg (show ¬ (1 = 1 ∧ i = 0 ∧ ¬ V (10 + 43 * (nc - 1)) = 0) by omega)]
      exact ⟨rfl, by omega, rfl, t4⟩
  · have g1 : ¬ nI l = (1 : Int32) := nI_ne (a := l) (b := 1) (by omega) (by omega) l1
    rw [if_neg g1, if_neg (show ¬ (l = 1 ∧ i = 0 ∧ ¬ V (10 + 43 * (nc - 1)) = 0) by omega)]
    by_cases l2 : l = 2
    · subst l2
      have hc1 := hc (Or.inr rfl)
      obtain ⟨k1, k2, k3, k4⟩ := c_counts hV h hc1
      have g2 : nI 2 = (2 : Int32) := rfl
      rw [if_pos g2, if_pos g2, k2]
      by_cases i0 : i = 0
      · subst i0
        have g3 : nI 0 = (0 : Int32) := rfl
        rw [if_pos g3, if_pos g3]
        by_cases n0 : V (31 + 43 * (nc - 1)) = 0
        · have g4 : nI (V (31 + 43 * (nc - 1))) ≤ 0 := by rw [n0]; decide
          have g5 : nI (V (31 + 43 * (nc - 1))) = 0 := by rw [n0]; rfl
          rw [if_pos g4, if_pos g5, if_neg (fun q => q.2.2 n0), if_pos ⟨rfl, rfl, n0⟩]
          exact ⟨rfl, by omega, rfl, by omega⟩
        · have g4 : ¬ nI (V (31 + 43 * (nc - 1))) ≤ 0 := nI_nle (by omega) (by omega)
          have g5 : ¬ nI (V (31 + 43 * (nc - 1))) = 0 := nI_ne0 (by omega) (by omega)
          have hr := (hV.2.2.2.2.2.1 (nc - 1) (V (31 + 43 * (nc - 1)) - 1) (by omega) (by omega)).1
          obtain ⟨h1, h2, h3, h4, h5, h6, h7⟩ := h
          have e6 := h6 (nc - 1) (V (31 + 43 * (nc - 1)) - 1) 0 (by omega) (by omega) (by omega)
          have eb : f_X0_zonesNumber ((f_X0_carrierCount dC) - 1) (nI (V (31 + 43 * (nc - 1))) - 1) 0 dZ = nI (V (32 + 43 * (nc - 1) + 5 * (V (31 + 43 * (nc - 1)) - 1))) := by
            rw [h1, f_X0_carrierCount, pred_nc hc1, f_X0_zonesNumber, f_X0_zonesStart, lit 0, lit 1, lit 3, lit 5, nI_sub (show 1 ≤ V (31 + 43 * (nc - 1)) by omega), nI_mul, nI_add, nI_mul, nI_add, at_in (by omega) (by omega), show ((nc - 1) * 3 + (V (31 + 43 * (nc - 1)) - 1)) * 5 + 0 = 15 * (nc - 1) + 5 * (V (31 + 43 * (nc - 1)) - 1) + 0 by omega, e6]
            rfl
          rw [if_neg g4, if_neg g5, if_pos ⟨rfl, rfl, n0⟩, if_neg (show ¬ (2 = 2 ∧ 0 = 0 ∧ V (31 + 43 * (nc - 1)) = 0) by omega), eb, nI_1]
          exact ⟨rfl, by omega, rfl, t4⟩
      · have g3 : ¬ nI i = (0 : Int32) := nI_ne0 (by omega) (by omega)
        rw [if_neg g3, if_neg g3, if_neg (show ¬ (2 = 2 ∧ i = 0 ∧ ¬ V (31 + 43 * (nc - 1)) = 0) by omega), if_neg (show ¬ (2 = 2 ∧ i = 0 ∧ V (31 + 43 * (nc - 1)) = 0) by omega)]
        exact ⟨rfl, by omega, rfl, t4⟩
    · have g2 : ¬ nI l = (2 : Int32) := nI_ne (a := l) (b := 2) (by omega) (by omega) l2
      rw [if_neg g2, if_neg g2, if_neg (show ¬ (l = 2 ∧ i = 0 ∧ ¬ V (31 + 43 * (nc - 1)) = 0) by omega), if_neg (show ¬ (l = 2 ∧ i = 0 ∧ V (31 + 43 * (nc - 1)) = 0) by omega)]
      exact ⟨rfl, by omega, rfl, t4⟩
/-- one number, the class's way -/
theorem c_num (h : TapeB b t tB mA) {e lo hi : Nat} (he : e ≤ t) (hlo : lo ≤ 100) (hhi : hi ≤ 999) (eF eU : Int32) : k_X3_readNumber tB (nI t) (nI e) eU ∧
    ((tKd b t e = 3 ∧ ¬ (tNm b t e < lo ∨ hi < tNm b t e) ∧ ∃ (k s : Int32), f_X3_readNumber (nI lo) (nI hi) tB (nI t) eF (nI e) eU = (1, eF, k, s, nI (tEn b t e), nI (tNm b t e))) ∨
     (tKd b t e = 3 ∧ (tNm b t e < lo ∨ hi < tNm b t e) ∧ ∃ (k en u : Int32), f_X3_readNumber (nI lo) (nI hi) tB (nI t) eF (nI e) eU = (0, 2, k, nI (tSt b t e), en, u)) ∨
     (¬ tKd b t e = 3 ∧ ∃ (k en u : Int32), f_X3_readNumber (nI lo) (nI hi) tB (nI t) eF (nI e) eU = (0, 1, k, nI (tSt b t e), en, u))) := by
  obtain ⟨a1, ck, en, u, a2, a3⟩ := c_adv h he eU
  obtain ⟨_, _, _, s9⟩ := tok_facts h he
  rw [f_X3_readNumber, k_X3_readNumber, a2, f_X3_fails, f_X3_fails, lit 3]
  by_cases h3 : tKd b t e = 3
  · have hx : ck = 3 ∧ en = tEn b t e ∧ u = nI (tNm b t e) := by
      rcases a3 with ⟨q, _⟩ | ⟨q, q1, q2, q3⟩ | ⟨q, _⟩ | ⟨q, _⟩ | ⟨q, _⟩
      · omega
      · exact ⟨q1, q2, q3⟩
      · omega
      · omega
      · omega
    obtain ⟨rfl, rfl, rfl⟩ := hx
    have h9 := s9 h3
    simp only [if_true]
    refine ⟨⟨a1, trivial⟩, ?_⟩
    by_cases h4 : tNm b t e < lo
    · have g4 : nI (tNm b t e) < nI lo := nI_lt h4 (by omega)
      simp only [if_pos g4]
      exact Or.inr (Or.inl ⟨h3, Or.inl h4, _, _, _, rfl⟩)
    · have g4 : ¬ nI (tNm b t e) < nI lo := nI_nlt (by omega) (by omega)
      by_cases h5 : hi < tNm b t e
      · have g5 : ¬ nI (tNm b t e) ≤ nI hi := nI_ge h5 (by omega)
        simp only [if_neg g4, if_neg g5]
        exact Or.inr (Or.inl ⟨h3, Or.inr h5, _, _, _, rfl⟩)
      · have g5 : nI (tNm b t e) ≤ nI hi := nI_le (by omega) (by omega)
        simp only [if_neg g4, if_pos g5]
        exact Or.inl ⟨h3, by omega, _, _, rfl⟩
  · have hx : ¬ nI ck = nI 3 := by
      rcases a3 with ⟨_, q, _⟩ | ⟨q, _⟩ | ⟨_, q, _⟩ | ⟨_, q, _⟩ | ⟨_, q | ⟨q, _⟩⟩
      · exact nI_ne (by omega) (by omega) (by omega)
      · omega
      · exact nI_ne (by omega) (by omega) (by omega)
      · exact nI_ne (by omega) (by omega) (by omega)
      · exact nI_ne (by omega) (by omega) (by omega)
      · exact nI_ne (by omega) (by omega) (by omega)
    simp only [if_neg hx]
    exact ⟨⟨a1, Or.inl trivial, trivial⟩, Or.inr (Or.inr ⟨h3, _, _, _, rfl⟩)⟩
/-- the numbers and the sign of a line -/
theorem c_numsL (h : TapeB b t tB mA) (hV : VOk nc V) (hD : DC nc V dA dB dZ dG dP dQ dC dM) {l : Nat} (hl : l < 5) (hc : l = 1 ∨ l = 2 → 1 ≤ nc) (eF : Int32) : ∀ (n i : Nat) (w : Nat → Nat) (e f : Nat) (eN : Nat → Int32) (eK eS eU : Int32), cntL l = i + n → n < f → e ≤ t → (∀ j : Nat, j < i → eN j = nI (w j)) →
    (∀ x : Nat × Nat, rdN b t (loN V (nc - 1) l) (hiN V (nc - 1) l) n i w e = .inl x → k_X3_readLine_L61 tB dA dB dZ dG dP dQ (nI t) dC dM f (nI l) (nI i) eN eF eK eS (nI e) eU ∧ ∃ (eN' : Nat → Int32) (eK' eE' eU' : Int32), f_X3_readLine_L61 tB dA dB dZ dG dP dQ (nI t) dC dM dL dD f (nI l) (nI i) eN eF eK eS (nI e) eU = (-1, eN', dA, dB, dZ, dG, dP, dQ, nI x.1, eK', nI x.2, eE', eU', dC, dM, dL, dD)) ∧
    (∀ (w' : Nat → Nat) (e' : Nat), rdN b t (loN V (nc - 1) l) (hiN V (nc - 1) l) n i w e = .inr (w', e') → ∃ (eN' : Nat → Int32) (u' : Int32), (∀ j : Nat, j < cntL l → eN' j = nI (w' j)) ∧
      f_X3_readLine_L61 tB dA dB dZ dG dP dQ (nI t) dC dM dL dD f (nI l) (nI i) eN eF eK eS (nI e) eU = f_X3_readLine_L115 dA dB dZ dG dP dQ dC dM dL dD (nI l) eN' eF (f_X3_advance tB (nI t) (nI e') u').1 (f_X3_advance tB (nI t) (nI e') u').2.1 (f_X3_advance tB (nI t) (nI e') u').2.2.1 (f_X3_advance tB (nI t) (nI e') u').2.2.2 ∧
      (k_X3_readLine_L115 dA dB dZ dG dP dQ dC dM (nI l) eN' eF (f_X3_advance tB (nI t) (nI e') u').1 (f_X3_advance tB (nI t) (nI e') u').2.1 (f_X3_advance tB (nI t) (nI e') u').2.2.1 (f_X3_advance tB (nI t) (nI e') u').2.2.2 → k_X3_readLine_L61 tB dA dB dZ dG dP dQ (nI t) dC dM f (nI l) (nI i) eN eF eK eS (nI e) eU)) := by
  obtain ⟨c1, c2⟩ := atS_cnt ⟨l, hl⟩
  simp only [] at c1 c2
  intro n
  induction n with
  | zero =>
    intro i w e f eN eK eS eU h1 h2 he hN
    obtain ⟨f', rfl⟩ : ∃ f', f = f' + 1 := ⟨f - 1, by omega⟩
    have g1 : nI (cntL l) ≤ nI i := nI_le (by omega) (by omega)
    rw [f_X3_readLine_L61, k_X3_readLine_L61, c1, if_pos g1, if_pos g1, rdN]
    refine ⟨fun x hx => (by cases hx), fun w' e' hx => ?_⟩
    cases hx
    exact ⟨eN, eU, fun j hj => hN j (by omega), rfl, fun q => ⟨(c_adv h he eU).1, q⟩⟩
  | succ n ih =>
    intro i w e f eN eK eS eU h1 h2 he hN
    obtain ⟨f', rfl⟩ : ∃ f', f = f' + 1 := ⟨f - 1, by omega⟩
    have g1 : ¬ nI (cntL l) ≤ nI i := nI_ge (by omega) (by omega)
    obtain ⟨l1, l2, l3, l4⟩ := c_lo hV hD hl (show i < 6 by omega) hc
    obtain ⟨m1, m2⟩ := c_num h he l2 l4 eF eU
    obtain ⟨_, _, s3, _⟩ := tok_facts h he
    rw [f_X3_readLine_L61, k_X3_readLine_L61, c1, if_neg g1, if_neg g1, l1, l3, rdN]
    rcases m2 with ⟨q1, q2, k, s, q3⟩ | ⟨q1, q2, k, en, u, q3⟩ | ⟨q1, k, en, u, q3⟩
    · obtain ⟨s4, s5, s6, s7, s8⟩ := s3 (by omega)
      rw [if_pos q1, if_neg q2, q3]
      simp only [if_neg one0]
      rw [st_in (show i < 6 by omega) (by omega), nI_1]
      obtain ⟨r1, r2⟩ := ih (i + 1) (updN w i (tNm b t e)) (tEn b t e) f' (upd eN i (nI (tNm b t e))) k s (nI (tNm b t e)) (by omega) (by omega) s8 (by
        intro j hj
        by_cases hji : j = i
        · subst hji; rw [upd_eq, updN_eq]
        · rw [upd_ne hji, updN_ne hji]; exact hN j (by omega))
      refine ⟨fun x hx => ?_, fun w' e' hx => ?_⟩
      · obtain ⟨y1, y2⟩ := r1 x hx
        exact ⟨⟨m1, y1⟩, y2⟩
      · obtain ⟨eN', u', y1, y2, y3⟩ := r2 w' e' hx
        exact ⟨eN', u', y1, y2, fun q => ⟨m1, y3 q⟩⟩
    · rw [if_pos q1, if_pos q2, q3]
      simp only [if_true]
      refine ⟨fun x hx => ?_, fun w' e' hx => (by cases hx)⟩
      cases hx
      exact ⟨⟨m1, trivial⟩, _, _, _, _, rfl⟩
    · rw [if_neg q1, q3]
      simp only [if_true]
      refine ⟨fun x hx => ?_, fun w' e' hx => (by cases hx)⟩
      cases hx
      exact ⟨⟨m1, trivial⟩, _, _, _, _, rfl⟩
end LINE
