/-! PURE, 14: the class's lower bound -/
theorem fullN {m : Nat} (hm : m ≤ 8) : f_X0_fullSet (nI m) = nI (2 ^ m - 1) ∧ 2 ^ m ≤ 256 := by
  have h2 : 2 ^ m ≤ 2 ^ 8 := Nat.pow_le_pow_right (by omega) hm
  have h3 : 1 ≤ 2 ^ m := Nat.one_le_two_pow
  rw [f_X0_fullSet, lit 31, lit 1, nI_and, and31 (by omega), nI_shl (by omega), Nat.one_shiftLeft, nI_sub h3]
  exact ⟨rfl, h2⟩
section LOWER
variable {R : Nat → Nat} {bA bB bZ bG bP bQ rK rL rG pS : Nat → Int32} {bC bM : Int32} {mN : Nat → Int32}
theorem c_bnd (hR : RowOk R) (h : BookC R bA bB bZ bG bP bQ bC bM) {c z W : Nat} (hc : c < R 0) (hz : z < 3) (hW : W ≤ 792) : f_X2_boundBy (nI c) (nI z) (nI W) bB bP = oI M1 (bndN R c z W) ∧ k_X2_boundBy (nI c) (nI z) (nI W) bB bP := by
  have h4 := (hR.2.1 c hc).2.2.2.2.2.2.1.2
  obtain ⟨h1, h2⟩ := c_bndL hR h hc hz hW FU 0 (by have := FU_big (n := R (10 + 43 * c)) (by omega); omega) (by omega)
  rw [f_X2_boundBy, k_X2_boundBy, neg1]
  exact ⟨congrArg Prod.fst h1, h2, trivial⟩
theorem bndN_some (hR : RowOk R) {c z W : Nat} (hc : c < R 0) (hz : z < 3) (hW : W ≤ 792) : ∃ n : Nat, n ≤ 791307 ∧ bndN R c z W = some n := by
  have h4 := (hR.2.1 c hc).2.2.2.2.2.2.1.1
  cases hb : bndN R c z W with
  | none =>
    rw [bndN] at hb
    obtain ⟨k, hk⟩ : ∃ k, R (10 + 43 * c) = k + 1 := ⟨R (10 + 43 * c) - 1, by omega⟩
    rw [hk, bndR] at hb
    cases hq : bndR R c z W k with
    | none => rw [hq] at hb; cases hb
    | some m => rw [hq, minO_some] at hb; cases hb
  | some n => exact ⟨n, bndR_le hR hc hz hW _ (Nat.le_refl _) n hb, rfl⟩
theorem lowR_le (hR : RowOk R) {W : Nat} (hW : W ≤ 792) : ∀ c : Nat, c ≤ R 0 → ∀ n : Nat, lowR R W c = some n → n ≤ 791307 := by
  have h0 := hR.1
  intro c
  induction c with
  | zero => intro _ n h; cases h
  | succ c ih =>
    intro hc n
    have hz := zoneN_le hR (c := c) (pl := R 2) (dy := R 3) (by omega) (by omega)
    rw [lowR]
    by_cases h3 : zoneN R c (R 2) (R 3) = 3
    · rw [if_pos h3]; exact ih (by omega) n
    · rw [if_neg h3]
      obtain ⟨m, hm, e⟩ := bndN_some hR (c := c) (z := zoneN R c (R 2) (R 3)) (by omega) (by omega) hW
      rw [e]
      show minO (lowR R W c) m = some n → _
      cases hq : lowR R W c with
      | none => intro h; cases h; exact hm
      | some t => rw [minO_some]; intro h; cases h; exact Nat.le_trans (Nat.min_le_right _ _) hm
theorem c_lowL (hR : RowOk R) (h : BookC R bA bB bZ bG bP bQ bC bM) (hp : PricesC R rK rL rG) (hl : PlanOf R pS) {W : Nat} (hWe : W = sumS R 0 (2 ^ R 1 - 1)) : ∀ (n c : Nat), R 0 < c + n → c ≤ R 0 →
    f_X6_lowerBound_L20 rK pS bB bZ bP bQ bC bM n (oI M2 (lowR R W c)) (nI c) = (oI M2 (lowR R W (R 0)), nI (R 0)) ∧ k_X6_lowerBound_L20 rK pS bB bZ bP bQ bC bM n (oI M2 (lowR R W c)) (nI c) := by
  have hbC := h.1
  have hbM := h.2.1
  subst hbC
  subst hbM
  have h0 := hR.1
  have hW : W ≤ 792 := by rw [hWe]; exact sumS_le0 hR
  obtain ⟨u1, u2⟩ := fullN (m := R 1) h0.2.2.1
  have u3 : 1 ≤ 2 ^ R 1 := Nat.one_le_two_pow
  have ek : f_X2_kilosOf (f_X0_fullSet (nI (R 1))) rK = nI W := by rw [u1, f_X2_kilosOf, at_in (by omega) (by omega), (hp.1 _ (by omega)).1, hWe]
  intro n
  induction n with
  | zero => intro k h1 h2; omega
  | succ n ih =>
    intro c h1 h2
    rw [f_X6_lowerBound_L20, k_X6_lowerBound_L20, f_X0_carrierCount]
    by_cases h5 : c = R 0
    · have g5 : nI (R 0) ≤ nI c := nI_le (by omega) (by omega)
      rw [if_pos g5, if_pos g5, h5]
      exact ⟨rfl, trivial⟩
    · have hc : c < R 0 := by omega
      have g5 : ¬ nI (R 0) ≤ nI c := nI_ge hc (by omega)
      have hz := zoneN_le hR (c := c) (pl := R 2) (dy := R 3) (by omega) (by omega)
      obtain ⟨z1, z2⟩ := c_zoneNow hR h hl hc
      have h7 := ih (c + 1) (by omega) (by omega)
      rw [lowR] at h7
      rw [if_neg g5, if_neg g5, z1, ek, lit 3, lit 0, lit 1, nI_add]
      by_cases h3 : zoneN R c (R 2) (R 3) = 3
      · have g3 : nI (zoneN R c (R 2) (R 3)) = nI 3 := by rw [h3]
        rw [if_pos h3] at h7
        rw [if_pos g3, if_pos g3]
        exact ⟨h7.1, z2, h7.2⟩
      · have g3 : ¬ nI (zoneN R c (R 2) (R 3)) = nI 3 := fun e => h3 ((nI_eq (by omega) (by omega)).mp e)
        obtain ⟨b1, b2⟩ := c_bnd hR h (z := zoneN R c (R 2) (R 3)) hc (by omega) hW
        obtain ⟨m, hm, e⟩ := bndN_some hR (z := zoneN R c (R 2) (R 3)) hc (by omega) hW
        rw [e] at b1
        rw [if_neg h3, e] at h7
        simp only [] at h7
        rw [if_neg g3, if_neg g3, b1, show oI M1 (some m) = nI m from rfl]
        cases hq : lowR R W c with
        | none =>
          rw [hq] at h7
          rw [show oI M2 none = M2 from rfl, if_pos M2_neg, if_pos M2_neg]
          exact ⟨h7.1, z2, b2, h7.2⟩
        | some t =>
          have ht := lowR_le hR hW c (by omega) t hq
          have g7 : ¬ nI t < nI 0 := nI_nlt (by omega) (by omega)
          rw [hq, minO] at h7
          rw [show oI M2 (some t) = nI t from rfl, if_neg g7, if_neg g7]
          by_cases h10 : t ≤ m
          · have g8 : nI t ≤ nI m := nI_le h10 (by omega)
            rw [if_pos h10] at h7
            rw [if_pos g8, if_pos g8]
            exact ⟨h7.1, z2, b2, h7.2⟩
          · have g8 : ¬ nI t ≤ nI m := nI_ge (by omega) (by omega)
            rw [if_neg h10] at h7
            rw [if_neg g8, if_neg g8]
            exact ⟨h7.1, z2, b2, h7.2⟩
end LOWER
