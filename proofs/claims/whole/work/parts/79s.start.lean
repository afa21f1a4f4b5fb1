/-! PURE, 47: the start -/
theorem copyS_L {x1 x3 x4 : Int32} {n2 : Nat} {L : List Int32} : ∀ (n : Nat) (v : Int32) (w : Nat → Int32), f_X6_copy_S_L3 x1 x3 x4 n2 L n v w = f_X6_copy_L3 x1 x3 x4 (sfn L) L.length n2 n v w ∧ (k_X6_copy_L3 x1 x3 x4 (sfn L) L.length n2 n v w → k_X6_copy_S_L3 x1 x3 x4 n2 L n v w) := by
  intro n
  induction n with
  | zero => intro v w; exact ⟨rfl, fun h => h⟩
  | succ n ih =>
    intro v w
    rw [f_X6_copy_S_L3, f_X6_copy_L3, k_X6_copy_S_L3, k_X6_copy_L3, show f_X6_at_S (x1 + v) L = f_X6_at (x1 + v) (sfn L) L.length from rfl]
    by_cases h : x4 ≤ v
    · rw [if_pos h, if_pos h, if_pos h, if_pos h]; exact ⟨rfl, fun h => h⟩
    · rw [if_neg h, if_neg h, if_neg h, if_neg h]; exact ih _ _
theorem copyS {b c n2 : Nat} {L : List Int32} (h1 : c ≤ L.length) (h2 : b + c ≤ n2) (h3 : L.length < 2 ^ 31) (h4 : n2 < 2 ^ 31) (h5 : c < 4096) (hh : Nat → Int32) :
    k_X6_copy_S (nI 0) (nI b) (nI c) hh n2 L ∧ ∀ j : Nat, f_X6_copy_S (nI 0) (nI b) (nI c) hh n2 L j = if b ≤ j ∧ j < b + c then sfn L (j - b) else hh j := by
  obtain ⟨r1, r2⟩ := copyN (a := 0) (b := b) (c := c) (n1 := L.length) (n2 := n2) (gg := sfn L) (by omega) h2 h3 h4 h5 hh
  obtain ⟨s1, s2⟩ := copyS_L (x1 := nI 0) (x3 := nI b) (x4 := nI c) (n2 := n2) (L := L) FU 0 hh
  refine ⟨⟨s2 r1.1, trivial⟩, fun j => ?_⟩
  rw [f_X6_copy_S, s1]
  refine (r2 j).trans ?_
  rw [Nat.zero_add]
def R0 : Nat → Nat := fun i => if i = 0 then 1 else if i = 4 then 99 else if i = 5 then 999 else if i = 6 then 99 else if i = 8 then 999 else if i = 10 then 1 else if i = 11 then 99 else if i = 31 then 1 else 0
theorem R0_z {i : Nat} (h : 31 < i) : R0 i = 0 := by
  rw [R0, if_neg (by omega), if_neg (by omega), if_neg (by omega), if_neg (by omega), if_neg (by omega), if_neg (by omega), if_neg (by omega), if_neg (by omega)]
theorem R0_ok : RowOk R0 := by
  refine ⟨by decide, fun c hc => ?_, fun c k hc hk => ?_, fun c k hc hk => ?_, fun g hg => ?_, fun g hg => ?_, fun q hq => ?_⟩
  · have e : c = 0 := Nat.lt_one_iff.mp hc
    subst e; decide
  · have e : c = 0 := Nat.lt_one_iff.mp hc
    subst e
    have e : k = 0 := Nat.lt_one_iff.mp hk
    subst e
    exact ⟨by decide, fun z hz => by
      rcases z with _ | _ | _ | z
      · decide
      · decide
      · decide
      · omega⟩
  · have e : c = 0 := Nat.lt_one_iff.mp hc
    subst e
    have e : k = 0 := Nat.lt_one_iff.mp hk
    subst e
    rw [R0_z (by omega)]
    exact ⟨by omega, fun z hz => by rw [R0_z (by omega)]; omega⟩
  · exact absurd hg (Nat.not_lt_zero g)
  · rw [R0_z (by omega)]; exact ⟨by omega, fun _ => rfl⟩
  · rw [R0_z (i := 165 + 2 * q) (by omega), R0_z (i := 166 + 2 * q) (by omega)]; exact ⟨by decide, by omega⟩
theorem R0_m' : ∀ i : Fin 181, i_X7_init_mN i.val = nI (R0 i.val) := by decide +kernel
theorem R0_m : RowM R0 i_X7_init_mN := fun i hi => R0_m' ⟨i, hi⟩
theorem r0_a : ∀ j : Fin 6, sfn bgS0 j.val = nI (R0 (4 + j.val)) := by decide +kernel
theorem r0_b : ∀ j : Fin 4, sfn bgS1 j.val = nI (R0 (11 + j.val)) := by decide +kernel
theorem r0_z : ∀ j : Fin 5, sfn bgS2 j.val = nI (R0 (32 + j.val)) := by decide +kernel
theorem fill0 : f_J7_fill_53178 0 (fun _ => 0) 3 = fun _ => 0 := by
  funext j
  rw [(fillN (x := 0) (n1 := 3) (by omega) (fun _ => 0)).2 j]
  by_cases h : j < 3
  · rw [if_pos h]
  · rw [if_neg h]
theorem clear0 : f_X0_clear (fun _ => 0) (fun _ => 0) = ((fun _ => 0), (fun _ => 0), 0, 0, 0, 0) := by
  rw [f_X0_clear, fill0]
theorem at0 {x : Int32} : f_X6_at x (fun _ => 0) 3 = 0 := by
  rw [f_X6_at]
  by_cases h : x < 0
  · rw [if_pos h]
  · rw [if_neg h]
    by_cases h2 : nI 3 ≤ x
    · rw [if_pos h2]
    · rw [if_neg h2]
theorem store0 : f_X6_store (0 + 1 - 1) (0 + 1) (fun _ => 0) 3 = upd (fun _ => 0) 0 (nI 1) := by
  rw [f_X6_store, if_neg (by decide), if_neg (by decide)]; rfl
theorem book0 : k_X0_fillAtFirst (fun _ => 0) (fun _ => 0) (fun _ => 0) (fun _ => 0) (fun _ => 0) (fun _ => 0) ∧ ∃ A B Z P Q : Nat → Int32, f_X0_fillAtFirst (fun _ => 0) (fun _ => 0) (fun _ => 0) (fun _ => 0) (fun _ => 0) (fun _ => 0) = (A, B, Z, (fun _ => 0), P, Q, nI 1, nI 0, nI 0, nI 0) ∧ BookC R0 A B Z (fun _ => 0) P Q (nI 1) (nI 0) := by
  obtain ⟨a1, a2⟩ := copyS (b := 0) (c := 6) (n2 := 18) (L := bgS0) (by decide) (by omega) (by decide) (by omega) (by omega) (fun _ => 0)
  obtain ⟨b1, b2⟩ := copyS (b := 0) (c := 4) (n2 := 60) (L := bgS1) (by decide) (by omega) (by decide) (by omega) (by omega) (fun _ => 0)
  obtain ⟨c1, c2⟩ := copyS (b := 0) (c := 5) (n2 := 45) (L := bgS2) (by decide) (by omega) (by decide) (by omega) (by omega) (fun _ => 0)
  have fk := (fillN (x := 0) (n1 := 3) (by omega) (fun _ => 0)).1
  have n10 : ¬ (1 : Int32) = 0 := by decide
  have n20 : ¬ (2 : Int32) = 0 := by decide
  have n21 : ¬ (2 : Int32) = 1 := by decide
  have eb : f_X0_breakStart (0 + 1 - 1) 0 = nI 0 := by rw [f_X0_breakStart]; decide
  have ez : f_X0_zonesStart (0 + 1 - 1) 0 = nI 0 := by rw [f_X0_zonesStart]; decide
  have e6 : (0 : Int32) * 6 = nI 0 := by decide
  have h0 : f_X0_addLine_S 0 (fun _ => 0) (fun _ => 0) (fun _ => 0) (fun _ => 0) (fun _ => 0) (fun _ => 0) 0 0 0 0 bgS0 = (f_X6_copy_S (nI 0) (nI 0) (nI 6) (fun _ => 0) 18 bgS0, (fun _ => 0), (fun _ => 0), (fun _ => 0), (fun _ => 0), (fun _ => 0), (0 + 1), 0, 0, 0) := by
    rw [f_X0_addLine_S, if_pos rfl, e6]; rfl
  have h1 : ∀ A : Nat → Int32, f_X0_addLine_S 1 A (fun _ => 0) (fun _ => 0) (fun _ => 0) (fun _ => 0) (fun _ => 0) (0 + 1) 0 0 0 bgS1 = (A, f_X6_copy_S (nI 0) (nI 0) (nI 4) (fun _ => 0) 60 bgS1, (fun _ => 0), (fun _ => 0), upd (fun _ => 0) 0 (nI 1), (fun _ => 0), (0 + 1), 0, 0, 0) := by
    intro A
    rw [f_X0_addLine_S, if_neg n10, if_pos rfl, f_X0_breakCount, at0, eb, store0]; rfl
  have h2 : ∀ A B P : Nat → Int32, f_X0_addLine_S 2 A B (fun _ => 0) (fun _ => 0) P (fun _ => 0) (0 + 1) 0 0 0 bgS2 = (A, B, f_X6_copy_S (nI 0) (nI 0) (nI 5) (fun _ => 0) 45 bgS2, (fun _ => 0), P, upd (fun _ => 0) 0 (nI 1), (0 + 1), 0, 0, 0) := by
    intro A B P
    rw [f_X0_addLine_S, if_neg n20, if_neg n21, if_pos rfl, f_X0_zonesCount, at0, ez, store0]; rfl
  have k0 : k_X0_addLine_S 0 (fun _ => 0) (fun _ => 0) (fun _ => 0) (fun _ => 0) (fun _ => 0) (fun _ => 0) 0 0 bgS0 := by
    rw [k_X0_addLine_S, if_pos rfl, e6]; exact ⟨a1, trivial⟩
  have k1 : ∀ A : Nat → Int32, k_X0_addLine_S 1 A (fun _ => 0) (fun _ => 0) (fun _ => 0) (fun _ => 0) (fun _ => 0) (0 + 1) 0 bgS1 := by
    intro A
    rw [k_X0_addLine_S, if_neg n10, if_pos rfl, f_X0_breakCount, at0, eb]; exact ⟨b1, trivial⟩
  have k2 : ∀ A B P : Nat → Int32, k_X0_addLine_S 2 A B (fun _ => 0) (fun _ => 0) P (fun _ => 0) (0 + 1) 0 bgS2 := by
    intro A B P
    rw [k_X0_addLine_S, if_neg n20, if_neg n21, if_pos rfl, f_X0_zonesCount, at0, ez]; exact ⟨c1, trivial⟩
  generalize f_X6_copy_S (nI 0) (nI 0) (nI 6) (fun _ => 0) 18 bgS0 = A at a2 h0
  generalize f_X6_copy_S (nI 0) (nI 0) (nI 4) (fun _ => 0) 60 bgS1 = B at b2 h1
  generalize f_X6_copy_S (nI 0) (nI 0) (nI 5) (fun _ => 0) 45 bgS2 = Z at c2 h2
  have q12 : k_X0_fillAtFirst_L12 A (fun _ => 0) (fun _ => 0) (fun _ => 0) (fun _ => 0) (fun _ => 0) (0 + 1) 0 0 0 ∧ f_X0_fillAtFirst_L12 A (fun _ => 0) (fun _ => 0) (fun _ => 0) (fun _ => 0) (fun _ => 0) (0 + 1) 0 0 0 = (A, B, Z, (fun _ => 0), upd (fun _ => 0) 0 (nI 1), upd (fun _ => 0) 0 (nI 1), nI 1, nI 0, nI 0, nI 0) := by
    rw [f_X0_fillAtFirst_L12, k_X0_fillAtFirst_L12, h1 A]
    dsimp only
    rw [h2 A B (upd (fun _ => 0) 0 (nI 1))]
    exact ⟨⟨k1 A, k2 A B _, trivial⟩, rfl⟩
  refine ⟨?_, A, B, Z, upd (fun _ => 0) 0 (nI 1), upd (fun _ => 0) 0 (nI 1), ?_, ?_⟩
  · rw [k_X0_fillAtFirst, clear0]
    dsimp only
    rw [h0]
    exact ⟨⟨fk, fk, trivial⟩, k0, q12.1⟩
  · rw [f_X0_fillAtFirst, clear0]
    dsimp only
    rw [h0]
    exact q12.2
  · refine ⟨rfl, rfl, fun c j hc hj => ?_, fun c hc => ?_, fun c hc => ?_, fun c k w hc hk hw => ?_, fun c k w hc hk hw => ?_, fun g w hg => absurd hg (Nat.not_lt_zero g)⟩
    · have e : c = 0 := Nat.lt_one_iff.mp hc
      subst e
      rw [a2, if_pos ⟨by omega, by omega⟩, show 6 * 0 + j - 0 = j by omega]
      exact r0_a ⟨j, hj⟩
    · have e : c = 0 := Nat.lt_one_iff.mp hc
      subst e
      rw [upd_eq]; rfl
    · have e : c = 0 := Nat.lt_one_iff.mp hc
      subst e
      rw [upd_eq]; rfl
    · have e : c = 0 := Nat.lt_one_iff.mp hc
      subst e
      have e : k = 0 := Nat.lt_one_iff.mp hk
      subst e
      rw [b2, if_pos ⟨by omega, by omega⟩, show 20 * 0 + 4 * 0 + w - 0 = w by omega]
      exact r0_b ⟨w, hw⟩
    · have e : c = 0 := Nat.lt_one_iff.mp hc
      subst e
      have e : k = 0 := Nat.lt_one_iff.mp hk
      subst e
      rw [c2, if_pos ⟨by omega, by omega⟩, show 15 * 0 + 5 * 0 + w - 0 = w by omega]
      exact r0_z ⟨w, hw⟩
theorem shift_of : ∀ g : Fin 8, (1 : Int64) <<< (Int32.toInt64 (f_X4_shiftOf (Int32.ofNat g.val)) &&& 63) = lN (32 ^ (7 - g.val)) := by decide +kernel
theorem ones_step : ∀ k : Fin 256, ∀ g : Fin 8, k.val.testBit g.val = true → onesN k.val = onesN (k.val ^^^ 2 ^ g.val) + 32 ^ (7 - g.val) := by decide +kernel
theorem ones_L68 : ∀ (n k : Nat) (w : Nat → Int64), 256 < k + n → 1 ≤ k → k ≤ 256 → (∀ T : Nat, T < k → w T = lN (onesN T)) → k_X4_init_L68 n (nI k) w ∧ OnesOk (f_X4_init_L68 n (nI k) w).2 := by
  intro n
  induction n with
  | zero => intro k w h1 h2 h3; omega
  | succ n ih =>
    intro k w h1 h2 h3 h4
    rw [f_X4_init_L68, k_X4_init_L68, lit 256]
    by_cases h5 : k = 256
    · have g5 : nI 256 ≤ nI k := nI_le (by omega) (by omega)
      rw [if_pos g5, if_pos g5]
      exact ⟨trivial, fun T hT => h4 T (by omega)⟩
    · have g5 : ¬ nI 256 ≤ nI k := nI_ge (by omega) (by omega)
      obtain ⟨g, e1, e2, e3, e4⟩ := ntz_of ⟨k, by omega⟩ (by show k ≠ 0; omega)
      have e1' : f_J6_numberOfTrailingZeros_0f7a4 (nI k) = Int32.ofNat g.val := e1
      have e3' : nI k &&& (nI k - 1) = nI (k ^^^ 2 ^ g.val) := e3
      have e4' : k ^^^ 2 ^ g.val < k := e4
      rw [if_neg g5, if_neg g5, e1', e3', shift_of g, cl (show k < 2 ^ 31 by omega), cl (show k ^^^ 2 ^ g.val < 2 ^ 31 by omega), h4 _ e4', lN_add, ← ones_step ⟨k, by omega⟩ g e2, nI_1]
      obtain ⟨r1, r2⟩ := ih (k + 1) (vp_updL w k (lN (onesN k))) (by omega) (by omega) (by omega) (fun T hT => by
        by_cases hk : T = k
        · subst hk; exact if_pos rfl
        · exact (if_neg hk).trans (h4 T (by omega)))
      exact ⟨⟨vp_in_nI (by omega) (by omega), vp_in_nI (by omega) (by omega), r1⟩, r2⟩
theorem ones0 : k_X4_init_L68 FU 1 (fun _ => 0) ∧ OnesOk i_X4_init_sU :=
  ones_L68 FU 1 (fun _ => 0) (by have := FU_big (n := 256) (by omega); omega) (by omega) (by omega) (fun T hT => by
    have e : T = 0 := by omega
    subst e; decide)
theorem start_k4 : k_X4_init := ⟨ones0.1, trivial⟩
theorem start_k6 : k_X6_init := by
  obtain ⟨b1, A, B, Z, P, Q, b2, b3⟩ := book0
  obtain ⟨d1, d2, d3, d4, d5, d6⟩ := c_begin R0_ok b3 (fun g hg => R0_z (by omega)) (fun i i1 i2 => R0_z (by omega)) (rK := fun _ => 0) (rL := fun _ => 0) (fun _ => 0) (fun _ => 0) (fun _ => 0) (fun _ => 0) rfl rfl (bL := 0) (bD := 0) rfl rfl
  rw [k_X6_init, b2]
  exact ⟨b1, d1, trivial⟩
theorem rel_start : Rel (fun _ => 0) 0 i_X6_init_bA i_X6_init_bB i_X6_init_bZ i_X6_init_bG i_X6_init_bP i_X6_init_bQ i_X6_init_bC i_X6_init_bM i_X6_init_rK i_X6_init_rL i_X6_init_rG i_X6_init_sZ (fun _ => 0) i_X4_init_sU i_X6_init_pS (fun _ => 0) i_X6_init_pN i_X6_init_pK 0 (fun _ => 0) 0 0 i_X7_init_mN (fun _ => 0) 0 := by
  obtain ⟨b1, A, B, Z, P, Q, b2, b3⟩ := book0
  obtain ⟨d1, d2, d3, d4, d5, d6⟩ := c_begin R0_ok b3 (fun g hg => R0_z (by omega)) (fun i i1 i2 => R0_z (by omega)) (rK := fun _ => 0) (rL := fun _ => 0) (fun _ => 0) (fun _ => 0) (fun _ => 0) (fun _ => 0) rfl rfl (bL := nI 0) (bD := nI 0) rfl rfl
  rw [i_X6_init_bA, i_X6_init_bB, i_X6_init_bZ, i_X6_init_bG, i_X6_init_bP, i_X6_init_bQ, i_X6_init_bC, i_X6_init_bM, i_X6_init_rK, i_X6_init_rL, i_X6_init_rG, i_X6_init_sZ, i_X6_init_pS, i_X6_init_pN, i_X6_init_pK, b2]
  exact ⟨R0, ⟨R0_ok, R0_m, b3, d2, d4, ones0.2, d3⟩, ⟨fun _ => R0, 0, 0, by omega, by omega, d5, d6, rfl, fun k hk => by omega⟩, ⟨0, by omega, rfl, rfl, fun i hi => by omega⟩, rfl⟩
