/-! PURE, 19: the class's splitSet as a whole, solve, leastCharge -/
theorem sub_lt {S P : Nat} (hS : S < 256) (h : SubP S P) : P < 256 ∧ P ≠ 0 ∧ S ^^^ P < S ∧ (S ^^^ P) % 2 = 0 := by
  obtain ⟨h1, g, h2, h3⟩ := h
  have hp : P < 2 ^ 8 := by
    apply Nat.lt_pow_two_of_testBit
    intro i hi
    cases h5 : P.testBit i with
    | false => rfl
    | true => have := tb_lt hS (h1 i h5); omega
  have hr : (S ^^^ P) &&& S = S ^^^ P := by
    apply Nat.eq_of_testBit_eq
    intro i
    rw [Nat.testBit_and, Nat.testBit_xor]
    cases h5 : P.testBit i with
    | false => simp
    | true => rw [h1 i h5]; rfl
  have hle : S ^^^ P ≤ S := by rw [← hr]; exact Nat.and_le_right
  have hne : S ^^^ P ≠ S := by
    intro e
    have := congrArg (fun y => Nat.testBit y g) e
    simp only [Nat.testBit_xor] at this
    rw [h2, h1 g h2] at this
    cases this
  have h0 : (S ^^^ P).testBit 0 = false := by
    rw [Nat.testBit_xor]
    cases h5 : S.testBit 0 with
    | false =>
      cases h6 : P.testBit 0 with
      | false => rfl
      | true => rw [h1 0 h6] at h5; cases h5
    | true =>
      have := h3 0 h5
      have e : g = 0 := by omega
      subst e
      rw [h2]; rfl
  rw [Nat.testBit_zero] at h0
  have h6 : ¬ (S ^^^ P) % 2 = 1 := by simpa using h0
  exact ⟨hp, tb_nz h2, by omega, by omega⟩
section SPLITSET
variable {o : Nat → Option Nat} {D : Nat → Option (Nat × Nat)} {sO : Nat → Int32} {sU : Nat → Int64}
theorem c_splitL {S g : Nat} (hO : OffOk o) (hS : S < 256) (h1 : S.testBit g = true) (h2 : ∀ h : Nat, S.testBit h = true → g ≤ h) (hlow : nI S &&& -(nI S) = nI (2 ^ g)) (hsO : ∀ P : Nat, SubP S P → sO P = oI M1 (o P)) (hU : ∀ T : Nat, T < 256 → sU T = lN (onesN T))
    (hB : ∀ P : Nat, SubP S P → BestS o (S ^^^ P) (D (S ^^^ P))) : ∀ (n t : Nat) (sL : Nat → Int32) (sW : Nat → Int64) (x : Option (Nat × Nat)), t < n → t &&& (S ^^^ 2 ^ g) = t → EncD x (sL S) (sW S) → (∀ P : Nat, SubP S P → EncD (D (S ^^^ P)) (sL (S ^^^ P)) (sW (S ^^^ P))) →
    BestC (candP o D S) (fun P => P = 2 ^ g ∨ ∃ u : Nat, u &&& (S ^^^ 2 ^ g) = u ∧ t < u ∧ P = 2 ^ g ||| u) x →
    k_X4_splitSet_L46 (nI S) sO sU n (nI t) sL sW ∧ ∃ x' : Option (Nat × Nat), BestC (candP o D S) (SubP S) x' ∧ EncD x' ((f_X4_splitSet_L46 (nI S) sO sU n (nI t) sL sW).2.1 S) ((f_X4_splitSet_L46 (nI S) sO sU n (nI t) sL sW).2.2 S) ∧ ∀ j : Nat, j ≠ S → (f_X4_splitSet_L46 (nI S) sO sU n (nI t) sL sW).2.1 j = sL j ∧ (f_X4_splitSet_L46 (nI S) sO sU n (nI t) sL sW).2.2 j = sW j := by
  intro n
  induction n with
  | zero => intro t sL sW x h; omega
  | succ n ih =>
    intro t sL sW x ht htM hx hE hC
    have hg8 := tb_lt hS h1
    have hM : S ^^^ 2 ^ g < 256 := Nat.xor_lt_two_pow (n := 8) hS (Nat.pow_lt_pow_right (by omega) hg8)
    have ht2 : t ≤ S ^^^ 2 ^ g := by rw [← htM]; exact Nat.and_le_right
    rw [f_X4_splitSet_L46, k_X4_splitSet_L46, hlow, nI_xor, nI_or, lit 0, lit 1]
    by_cases h5 : t = 0
    · subst h5
      have g5 : nI 0 ≤ nI 0 := nI_le (by omega) (by omega)
      rw [if_pos g5, if_pos g5]
      refine ⟨trivial, x, BestC_congr ?_ (fun _ _ => rfl) hC, hx, fun j _ => ⟨rfl, rfl⟩⟩
      intro P
      rw [sub_iff h1 h2]
      constructor
      · rintro (h | ⟨u, h6, _, h7⟩)
        · exact ⟨0, Nat.zero_and _, by rw [h, Nat.or_zero]⟩
        · exact ⟨u, h6, h7⟩
      · rintro ⟨u, h6, h7⟩
        rcases Nat.eq_zero_or_pos u with h8 | h8
        · subst h8; rw [Nat.or_zero] at h7; exact Or.inl h7
        · exact Or.inr ⟨u, h6, h8, h7⟩
    · have g5 : ¬ nI t ≤ nI 0 := nI_ge (by omega) (by omega)
      have hs : SubP S (2 ^ g ||| t) := (sub_iff h1 h2).mpr ⟨t, htM, rfl⟩
      obtain ⟨s1, s2, s3, s4⟩ := sub_lt hS hs
      obtain ⟨t1, t2, t3⟩ := c_try (sO := sO) (sL := sL) (sW := sW) (sU := sU) (P := 2 ^ g ||| t) hO hS (tb_nz h1) s1 s2 (hsO _ hs) hU hx (hE _ hs) (fun y hy => by have := hB _ hs; rw [hy] at this; exact BestS_lt this)
      rw [if_neg g5, if_neg g5, nI_sub (by omega), nI_and]
      have hE' : ∀ P : Nat, SubP S P → EncD (D (S ^^^ P)) ((f_X4_tryParcel (nI S) (nI (2 ^ g ||| t)) sO sL sW sU).1 (S ^^^ P)) ((f_X4_tryParcel (nI S) (nI (2 ^ g ||| t)) sO sL sW sU).2 (S ^^^ P)) := by
        intro P hP
        have h6 := (sub_lt hS hP).2.2.1
        rw [(t3 (S ^^^ P) (by omega)).1, (t3 (S ^^^ P) (by omega)).2]
        exact hE P hP
      have hnt : (t - 1) &&& (S ^^^ 2 ^ g) ≤ t - 1 := Nat.and_le_left
      obtain ⟨r1, x', r2, r3, r4⟩ := ih ((t - 1) &&& (S ^^^ 2 ^ g)) _ _ _ (by omega) (by rw [Nat.and_assoc, Nat.and_self]) t2 hE' (BestC_congr (fun P => by
        constructor
        · rintro ((h | ⟨u, h6, h7, h8⟩) | h)
          · exact Or.inl h
          · exact Or.inr ⟨u, h6, by omega, h8⟩
          · exact Or.inr ⟨t, htM, by omega, h⟩
        · rintro (h | ⟨u, h6, h7, h8⟩)
          · exact Or.inl (Or.inl h)
          · rcases Nat.lt_trichotomy t u with h9 | h9 | h9
            · exact Or.inl (Or.inr ⟨u, h6, h9, h8⟩)
            · subst h9; exact Or.inr h8
            · have := sub_next _ t u htM h6 h9
              omega) (fun _ _ => rfl) (mix_best (2 ^ g ||| t) hC))
      refine ⟨⟨t1, r1⟩, x', r2, r3, fun j hj => ?_⟩
      rw [(r4 j hj).1, (r4 j hj).2]
      exact t3 j hj
theorem c_splitSet {S : Nat} {sL : Nat → Int32} {sW : Nat → Int64} (hO : OffOk o) (hS : S < 256) (hS0 : S ≠ 0) (hsO : ∀ P : Nat, SubP S P → sO P = oI M1 (o P)) (hU : ∀ T : Nat, T < 256 → sU T = lN (onesN T))
    (hE : ∀ P : Nat, SubP S P → EncD (D (S ^^^ P)) (sL (S ^^^ P)) (sW (S ^^^ P))) (hB : ∀ P : Nat, SubP S P → BestS o (S ^^^ P) (D (S ^^^ P))) :
    k_X4_splitSet (nI S) sO sL sW sU ∧ ∃ x : Option (Nat × Nat), BestS o S x ∧ EncD x ((f_X4_splitSet (nI S) sO sL sW sU).1 S) ((f_X4_splitSet (nI S) sO sL sW sU).2 S) ∧ ∀ j : Nat, j ≠ S → (f_X4_splitSet (nI S) sO sL sW sU).1 j = sL j ∧ (f_X4_splitSet (nI S) sO sL sW sU).2 j = sW j := by
  obtain ⟨g, hg8, hlow, h1, h2⟩ := low_ofN hS hS0
  have v : vp_in (nI S) 256 := vp_in_nI hS (by omega)
  have g1 : ¬ nI S < nI 1 := nI_nlt (by omega) (by omega)
  have g2 : nI S < nI 256 := nI_lt hS (by omega)
  have hs : SubP S (2 ^ g) := (sub_iff h1 h2).mpr ⟨0, Nat.zero_and _, (Nat.or_zero _).symm⟩
  obtain ⟨s1, s2, s3, s4⟩ := sub_lt hS hs
  have hE0 : ∀ P : Nat, SubP S P → EncD (D (S ^^^ P)) (upd sL S M2 (S ^^^ P)) (vp_updL sW S 0 (S ^^^ P)) := by
    intro P hP
    have h6 := (sub_lt hS hP).2.2.1
    rw [show upd sL S M2 (S ^^^ P) = sL (S ^^^ P) from if_neg (by omega), show vp_updL sW S 0 (S ^^^ P) = sW (S ^^^ P) from if_neg (by omega)]
    exact hE P hP
  have hx0 : EncD none (upd sL S M2 S) (vp_updL sW S 0 S) := if_pos rfl
  obtain ⟨t1, t2, t3⟩ := c_try (sO := sO) (sL := upd sL S M2) (sW := vp_updL sW S 0) (sU := sU) (P := 2 ^ g) hO hS hS0 s1 s2 (hsO _ hs) hU hx0 (hE0 _ hs) (fun y hy => by have := hB _ hs; rw [hy] at this; exact BestS_lt this)
  have hM : S ^^^ 2 ^ g < 256 := Nat.xor_lt_two_pow (n := 8) hS (Nat.pow_lt_pow_right (by omega) hg8)
  have hE1 : ∀ P : Nat, SubP S P → EncD (D (S ^^^ P)) ((f_X4_tryParcel (nI S) (nI (2 ^ g)) sO (upd sL S M2) (vp_updL sW S 0) sU).1 (S ^^^ P)) ((f_X4_tryParcel (nI S) (nI (2 ^ g)) sO (upd sL S M2) (vp_updL sW S 0) sU).2 (S ^^^ P)) := by
    intro P hP
    have h6 := (sub_lt hS hP).2.2.1
    rw [(t3 (S ^^^ P) (by omega)).1, (t3 (S ^^^ P) (by omega)).2]
    exact hE0 P hP
  obtain ⟨r1, x', r2, r3, r4⟩ := c_splitL (sO := sO) (sU := sU) hO hS h1 h2 hlow hsO hU hB FU (S ^^^ 2 ^ g) _ _ _ (FU_big (by omega)) (Nat.and_self _) t2 hE1 (BestC_congr (fun P => by
    constructor
    · rintro (h | h)
      · exact h.elim
      · exact Or.inl h
    · rintro (h | ⟨u, h6, h7, h8⟩)
      · exact Or.inr h
      · have : u ≤ S ^^^ 2 ^ g := by rw [← h6]; exact Nat.and_le_right
        omega) (fun _ _ => rfl) (mix_best (c := candP o D S) (Q := fun _ => False) (x := none) (2 ^ g) (fun _ h => h.elim)))
  rw [f_X4_splitSet, k_X4_splitSet, lit 1, lit 256, if_neg g1, if_neg g1, if_pos g2, if_pos g2, f_X4_splitSet_L71, k_X4_splitSet_L71, hlow, nI_xor, neg2, cl (show S < 2 ^ 31 by omega)]
  refine ⟨⟨v, v, t1, r1, trivial⟩, x', dp_step hO hS hS0 hB r2, r3, fun j hj => ?_⟩
  rw [(r4 j hj).1, (r4 j hj).2, (t3 j hj).1, (t3 j hj).2]
  exact ⟨if_neg hj, if_neg hj⟩
end SPLITSET
