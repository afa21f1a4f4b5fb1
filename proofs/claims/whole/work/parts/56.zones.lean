/-! PURE, 7: the zones of all carriers in one number -/
def zAt (R : Nat → Nat) (pl dy : Nat) : Nat → Nat
  | 0 => 0
  | c + 1 => zAt R pl dy c ||| zoneN R c pl dy <<< (2 * c)
theorem zz3 : ∀ a b c : Fin 4, (((0 ||| a.val <<< (2 * 0)) ||| b.val <<< (2 * 1)) ||| c.val <<< (2 * 2)) < 64 ∧ zIn (((0 ||| a.val <<< (2 * 0)) ||| b.val <<< (2 * 1)) ||| c.val <<< (2 * 2)) 0 = a.val ∧ zIn (((0 ||| a.val <<< (2 * 0)) ||| b.val <<< (2 * 1)) ||| c.val <<< (2 * 2)) 1 = b.val ∧ zIn (((0 ||| a.val <<< (2 * 0)) ||| b.val <<< (2 * 1)) ||| c.val <<< (2 * 2)) 2 = c.val := by decide +kernel
theorem zz2 : ∀ a b : Fin 4, ((0 ||| a.val <<< (2 * 0)) ||| b.val <<< (2 * 1)) < 64 ∧ zIn ((0 ||| a.val <<< (2 * 0)) ||| b.val <<< (2 * 1)) 0 = a.val ∧ zIn ((0 ||| a.val <<< (2 * 0)) ||| b.val <<< (2 * 1)) 1 = b.val := by decide +kernel
theorem zz1 : ∀ a : Fin 4, (0 ||| a.val <<< (2 * 0)) < 64 ∧ zIn (0 ||| a.val <<< (2 * 0)) 0 = a.val := by decide +kernel
theorem zoneN_le {R : Nat → Nat} (hR : RowOk R) {c pl dy : Nat} (hc : c < R 0) (hp : pl ≤ 3) : zoneN R c pl dy ≤ 3 := zoneR_le hR hc hp _ (Nat.le_refl _)
theorem zAt_ok {R : Nat → Nat} (hR : RowOk R) {pl dy : Nat} (hp : pl ≤ 3) {m : Nat} (hm : m ≤ R 0) : zAt R pl dy m < 64 ∧ ∀ c : Nat, c < m → zIn (zAt R pl dy m) c = zoneN R c pl dy := by
  have h0 := hR.1.2.1
  rcases (show m = 0 ∨ m = 1 ∨ m = 2 ∨ m = 3 by omega) with rfl | rfl | rfl | rfl
  · exact ⟨show 0 < 64 by omega, fun c h => by omega⟩
  · have a := zoneN_le hR (c := 0) (dy := dy) (by omega) hp
    have z := zz1 ⟨_, Nat.lt_succ_of_le a⟩
    refine ⟨z.1, fun c h => ?_⟩
    rcases (show c = 0 by omega) with rfl
    exact z.2
  · have a := zoneN_le hR (c := 0) (dy := dy) (by omega) hp
    have b := zoneN_le hR (c := 1) (dy := dy) (by omega) hp
    have z := zz2 ⟨_, Nat.lt_succ_of_le a⟩ ⟨_, Nat.lt_succ_of_le b⟩
    refine ⟨z.1, fun c h => ?_⟩
    rcases (show c = 0 ∨ c = 1 by omega) with rfl | rfl
    · exact z.2.1
    · exact z.2.2
  · have a := zoneN_le hR (c := 0) (dy := dy) (by omega) hp
    have b := zoneN_le hR (c := 1) (dy := dy) (by omega) hp
    have d := zoneN_le hR (c := 2) (dy := dy) (by omega) hp
    have z := zz3 ⟨_, Nat.lt_succ_of_le a⟩ ⟨_, Nat.lt_succ_of_le b⟩ ⟨_, Nat.lt_succ_of_le d⟩
    refine ⟨z.1, fun c h => ?_⟩
    rcases (show c = 0 ∨ c = 1 ∨ c = 2 by omega) with rfl | rfl | rfl
    · exact z.2.1
    · exact z.2.2.1
    · exact z.2.2.2
/-- offers know of zones only -/
theorem offR_congr {R z1 z2 : Nat → Nat} {S : Nat} : ∀ m : Nat, (∀ c, c < m → z1 c = z2 c) → offR R z1 S m = offR R z2 S m := by
  intro m
  induction m with
  | zero => intro _; rfl
  | succ m ih =>
    intro h
    rw [offR, offR, ih (fun c hc => h c (by omega)), h m (by omega)]
section ZONES
variable {R : Nat → Nat} {bA bB bZ bG bP bQ rK rL rG : Nat → Int32} {bC bM : Int32} {mN : Nat → Int32}
theorem c_zonesL (hR : RowOk R) (h : BookC R bA bB bZ bG bP bQ bC bM) {pl dy : Nat} (hp : pl ≤ 3) (hd : dy ≤ 99) : ∀ (n c : Nat), R 0 < c + n → c ≤ R 0 →
    f_X2_zonesAt_L5 (nI pl) (nI dy) bZ bQ bC n (nI (zAt R pl dy c)) (nI c) = (nI (zAt R pl dy (R 0)), nI (R 0)) ∧ k_X2_zonesAt_L5 (nI pl) (nI dy) bZ bQ bC n (nI (zAt R pl dy c)) (nI c) := by
  have hbC := h.1
  subst hbC
  have h0 := hR.1.2.1
  intro n
  induction n with
  | zero => intro k h1 h2; omega
  | succ n ih =>
    intro c h1 h2
    rw [f_X2_zonesAt_L5, k_X2_zonesAt_L5, f_X0_carrierCount]
    by_cases h5 : c = R 0
    · have g5 : nI (R 0) ≤ nI c := nI_le (by omega) (by omega)
      rw [if_pos g5, if_pos g5, h5]
      exact ⟨rfl, trivial⟩
    · have hc : c < R 0 := by omega
      have g5 : ¬ nI (R 0) ≤ nI c := nI_ge hc (by omega)
      obtain ⟨e1, e2⟩ := c_zone hR h (c := c) hc hp hd
      have h7 := ih (c + 1) (by omega) (by omega)
      rw [zAt] at h7
      rw [if_neg g5, if_neg g5, e1, lit 2, lit 31, lit 1, nI_mul, nI_and, and31 (by omega), nI_shl (by omega), nI_or, nI_add]
      exact ⟨h7.1, e2, h7.2⟩
theorem c_zones (hR : RowOk R) (h : BookC R bA bB bZ bG bP bQ bC bM) {pl dy : Nat} (hp : pl ≤ 3) (hd : dy ≤ 99) : f_X2_zonesAt (nI pl) (nI dy) bZ bQ bC = nI (zAt R pl dy (R 0)) ∧ k_X2_zonesAt (nI pl) (nI dy) bZ bQ bC := by
  have h0 := hR.1.2.1
  obtain ⟨h1, h2⟩ := c_zonesL hR h hp hd FU 0 (by have := FU_big (n := R 0) (by omega); omega) (by omega)
  rw [f_X2_zonesAt, k_X2_zonesAt]
  exact ⟨congrArg Prod.fst h1, h2, trivial⟩
end ZONES
