/-! PURE, 14: the class's lower bound -/
theorem fullN {m : Nat} (hm : m ≤ 8) : f_X0_fullSet (nI m) = nI (2 ^ m - 1) ∧ 2 ^ m ≤ 256 := by
  have h2 : 2 ^ m ≤ 2 ^ 8 := Nat.pow_le_pow_right (by omega) hm
  have h3 : 1 ≤ 2 ^ m := Nat.one_le_two_pow
  rw [f_X0_fullSet, lit 31, lit 1, nI_and, and31 (by omega), nI_shl (by omega), Nat.one_shiftLeft, nI_sub h3]
  exact ⟨rfl, h2⟩
section LOWER
variable {R : Nat → Nat} {bA bB bZ bG bP bQ rK rL rG pS : Nat → Int32} {bC bM : Int32} {mN : Nat → Int32}
theorem c_bnd (hR : RowOk R) (h : BookC R bA bB bZ bG bP bQ bC bM) {c z W : Nat} (hc : c < R 0) (hz : z < 3) (hW : W ≤ 792) : f_X2_boundBy (nI c) (nI z) (nI W) bB bP = oI M1 (bndN R c z W) ∧ k_X2_boundBy (nI c) (nI z) (nI W) bB bP := by
  have h4 := (hR.2.1 c hc).2.2.2.2.2.2.1.2
  obtain ⟨h1, h2⟩ := c_bndL hR h hc hz hW FU 0 (by have := FU_big (n := R (10 + 43 * c)) (by omega); omega) (by omega)
  rw [f_X2_boundBy, k_X2_boundBy, neg1]
  exact ⟨congrArg Prod.fst h1, h2, trivial⟩
theorem bndN_some (hR : RowOk R) {c z W : Nat} (hc : c < R 0) (hz : z < 3) (hW : W ≤ 792) : ∃ n : Nat, n ≤ 791307 ∧ bndN R c z W = some n := by
  have h4 := (hR.2.1 c hc).2.2.2.2.2.2.1.1
  cases hb : bndN R c z W with
  | none =>
    rw [bndN] at hb
    obtain ⟨k, hk⟩ : ∃ k, R (10 + 43 * c) = k + 1 := ⟨R (10 + 43 * c) - 1, by omega⟩
    rw [hk, bndR] at hb
    cases hq : bndR R c z W k with
    | none => rw [hq] at hb; cases hb
    | some m => rw [hq, minO_some] at hb; cases hb
  | some n => exact ⟨n, bndR_le hR hc hz hW _ (Nat.le_refl _) n hb, rfl⟩
end LOWER
