/-! PURE, 17: splits: the parcel of each good of a set -/
def setOf (S : Nat) (r : Nat → Nat) (q : Nat) : Nat := bitsN (fun g => S.testBit g && decide (r g = q)) 8
theorem setOf_tb {S : Nat} {r : Nat → Nat} (q g : Nat) : (setOf S r q).testBit g = true ↔ g < 8 ∧ S.testBit g = true ∧ r g = q := by
  rw [setOf, bitsN_tb]; simp
theorem setOf_lt {S : Nat} {r : Nat → Nat} (q : Nat) : setOf S r q < 256 := bitsN_lt 8
theorem tb_lt {S g : Nat} (hS : S < 256) (h : S.testBit g = true) : g < 8 := by
  rcases Nat.lt_or_ge g 8 with h1 | h1
  · exact h1
  · have h2 : (2 : Nat) ^ 8 ≤ 2 ^ g := Nat.pow_le_pow_right (by omega) h1
    rw [Nat.testBit_lt_two_pow (Nat.lt_of_lt_of_le hS h2)] at h; cases h
def RG (S : Nat) (r : Nat → Nat) : Prop := ∀ g : Nat, S.testBit g = true → ∀ q : Nat, q < r g → ∃ h : Nat, h < g ∧ S.testBit h = true ∧ r h = q
theorem RG_le {S : Nat} {r : Nat → Nat} (h : RG S r) : ∀ g : Nat, S.testBit g = true → r g ≤ g := by
  intro g
  induction g using Nat.strongRecOn with
  | ind g ih =>
    intro hg
    rcases Nat.eq_zero_or_pos (r g) with h0 | h0
    · omega
    · obtain ⟨j, h1, h2, h3⟩ := h g hg (r g - 1) (by omega)
      have := ih j h1 h2
      omega
def chN (o : Nat → Option Nat) (P : Nat) : Nat := if P = 0 then 0 else match o P with
  | none => 1000000
  | some x => x / 3
def caN (o : Nat → Option Nat) (P : Nat) : Nat := match o P with
  | none => 0
  | some x => x % 3
def OffOk (o : Nat → Option Nat) : Prop := ∀ P x : Nat, o P = some x → x ≤ 53678
def costR (o : Nat → Option Nat) (S : Nat) (r : Nat → Nat) : Nat → Nat
  | 0 => 0
  | q + 1 => costR o S r q + chN o (setOf S r q)
theorem setOf_big {S : Nat} {r : Nat → Nat} (h : RG S r) {q : Nat} (hq : 8 ≤ q) : setOf S r q = 0 := by
  rcases Nat.eq_zero_or_pos (setOf S r q) with h0 | h0
  · exact h0
  · obtain ⟨g, hg⟩ := nz_tb (x := setOf S r q) (by omega)
    rw [setOf_tb] at hg
    have := RG_le h g hg.2.1
    omega
theorem chN_le {o : Nat → Option Nat} (hO : OffOk o) {P : Nat} (h : chN o P < 1000000) : chN o P ≤ 17892 ∧ (P ≠ 0 → ∃ x : Nat, o P = some x ∧ chN o P = x / 3) := by
  rw [chN] at h ⊢
  by_cases h0 : P = 0
  · rw [if_pos h0]; exact ⟨by omega, fun e => absurd h0 e⟩
  · rw [if_neg h0] at h ⊢
    cases ho : o P with
    | none => rw [ho] at h; simp only [] at h; omega
    | some x =>
      have := hO P x ho
      exact ⟨show x / 3 ≤ 17892 by omega, fun _ => ⟨x, rfl, rfl⟩⟩
theorem chN_0 {o : Nat → Option Nat} : chN o 0 = 0 := by rw [chN, if_pos rfl]
theorem costR_le {o : Nat → Option Nat} (hO : OffOk o) {S : Nat} {r : Nat → Nat} : ∀ n : Nat, costR o S r n < 1000000 → costR o S r n ≤ 17892 * n ∧ ∀ q : Nat, q < n → chN o (setOf S r q) < 1000000 := by
  intro n
  induction n with
  | zero => intro _; exact ⟨Nat.le_refl _, fun q h => by omega⟩
  | succ n ih =>
    intro h
    rw [costR] at h ⊢
    obtain ⟨h1, h2⟩ := ih (by omega)
    have h3 := (chN_le hO (P := setOf S r n) (by omega)).1
    refine ⟨by omega, fun q hq => ?_⟩
    rcases Nat.lt_succ_iff_lt_or_eq.mp hq with h4 | h4
    · exact h2 q h4
    · subst h4; omega
theorem costR_9 {o : Nat → Option Nat} {S : Nat} {r : Nat → Nat} (h : RG S r) : costR o S r 9 = costR o S r 8 := by
  rw [costR, setOf_big h (Nat.le_refl 8), chN_0, Nat.add_zero]
/-- the first parcel and the rest -/
theorem shiftL {S P : Nat} {r r' : Nat → Nat} (hP : P = setOf S r 0) (hr : ∀ g : Nat, (S ^^^ P).testBit g = true → r g = r' g + 1) (q : Nat) : setOf (S ^^^ P) r' q = setOf S r (q + 1) := by
  apply Nat.eq_of_testBit_eq
  intro g
  rw [Bool.eq_iff_iff, setOf_tb, setOf_tb]
  constructor
  · rintro ⟨h1, h2, h3⟩
    have h4 := hr g h2
    rw [Nat.testBit_xor] at h2
    refine ⟨h1, ?_, by omega⟩
    cases h5 : S.testBit g with
    | true => rfl
    | false =>
      rw [h5, Bool.false_xor, hP, setOf_tb] at h2
      rw [h5] at h2
      exact h2.2.1
  · rintro ⟨h1, h2, h3⟩
    have h4 : P.testBit g = false := by
      cases h5 : P.testBit g with
      | false => rfl
      | true => rw [hP, setOf_tb] at h5; omega
    have h5 : (S ^^^ P).testBit g = true := by rw [Nat.testBit_xor, h2, h4]; rfl
    have := hr g h5
    exact ⟨h1, h5, by omega⟩
theorem cost_shift {o : Nat → Option Nat} {S P : Nat} {r r' : Nat → Nat} (hP : P = setOf S r 0) (hr : ∀ g : Nat, (S ^^^ P).testBit g = true → r g = r' g + 1) : ∀ n : Nat, costR o S r (n + 1) = chN o P + costR o (S ^^^ P) r' n := by
  intro n
  induction n with
  | zero => rw [costR, costR, costR, hP]; omega
  | succ n ih => rw [costR, ih, costR, shiftL hP hr n]; omega
def valN (a : Nat → Nat) : Nat → Nat
  | 0 => 0
  | k + 1 => 32 * valN a k + a k
def onesN (P : Nat) : Nat := valN (fun g => (P.testBit g).toNat) 8
def digN (o : Nat → Option Nat) (S : Nat) (r : Nat → Nat) (g : Nat) : Nat := if S.testBit g = true then 3 * r g + caN o (setOf S r (r g)) else 0
theorem dig_shift {o : Nat → Option Nat} {S P : Nat} {r r' : Nat → Nat} (hS : S < 256) (hP : P = setOf S r 0) (hr : ∀ g : Nat, (S ^^^ P).testBit g = true → r g = r' g + 1) (g : Nat) : digN o S r g = caN o P * (P.testBit g).toNat + digN o (S ^^^ P) r' g + 3 * ((S ^^^ P).testBit g).toNat := by
  have hx : (S ^^^ P).testBit g = (S.testBit g ^^ P.testBit g) := Nat.testBit_xor S P g
  rw [digN, digN]
  cases h1 : S.testBit g with
  | false =>
    have h2 : P.testBit g = false := by
      cases h5 : P.testBit g with
      | false => rfl
      | true => rw [hP, setOf_tb] at h5; rw [h1] at h5; cases h5.2.1
    rw [h1, h2] at hx
    rw [hx, h2, if_neg (by decide), if_neg (by decide)]
    simp
  | true =>
    cases h2 : P.testBit g with
    | true =>
      have h5 : (setOf S r 0).testBit g = true := by rw [← hP]; exact h2
      rw [setOf_tb] at h5
      rw [h1, h2] at hx
      rw [hx, if_pos rfl, if_neg (by decide), h5.2.2, ← hP]
      simp
    | false =>
      rw [h1, h2] at hx
      have h5 : (S ^^^ P).testBit g = true := hx
      have h6 := hr g h5
      rw [h5, if_pos rfl, if_pos rfl, h6, ← shiftL hP hr (r' g)]
      simp
      omega
theorem val_shift {o : Nat → Option Nat} {S P : Nat} {r r' : Nat → Nat} (hS : S < 256) (hP : P = setOf S r 0) (hr : ∀ g : Nat, (S ^^^ P).testBit g = true → r g = r' g + 1) : ∀ n : Nat, valN (digN o S r) n = caN o P * valN (fun g => (P.testBit g).toNat) n + valN (digN o (S ^^^ P) r') n + 3 * valN (fun g => ((S ^^^ P).testBit g).toNat) n := by
  intro n
  induction n with
  | zero => rfl
  | succ n ih =>
    rw [valN, ih, valN, valN, valN, dig_shift hS hP hr n, Nat.mul_add (caN o P), Nat.mul_left_comm (caN o P) 32]
    generalize caN o P * valN (fun g => (P.testBit g).toNat) n = t1
    generalize caN o P * (P.testBit n).toNat = t2
    generalize ((S ^^^ P).testBit n).toNat = t3
    omega
def lexle (a b c d : Nat) : Prop := a < c ∨ (a = c ∧ b ≤ d)
theorem lexle_trans {a b c d e f : Nat} (h1 : lexle a b c d) (h2 : lexle c d e f) : lexle a b e f := by
  rcases h1 with h1 | ⟨h1, h3⟩ <;> rcases h2 with h2 | ⟨h2, h4⟩
  · exact Or.inl (by omega)
  · exact Or.inl (by omega)
  · exact Or.inl (by omega)
  · exact Or.inr ⟨by omega, by omega⟩
def BestS (o : Nat → Option Nat) (S : Nat) : Option (Nat × Nat) → Prop
  | none => ∀ r : Nat → Nat, RG S r → 1000000 ≤ costR o S r 8
  | some x => x.1 < 1000000 ∧ (∃ r : Nat → Nat, RG S r ∧ costR o S r 8 = x.1 ∧ valN (digN o S r) 8 = x.2) ∧ ∀ r : Nat → Nat, RG S r → costR o S r 8 < 1000000 → lexle x.1 x.2 (costR o S r 8) (valN (digN o S r) 8)
def candP (o : Nat → Option Nat) (D : Nat → Option (Nat × Nat)) (S P : Nat) : Option (Nat × Nat) := match o P with
  | none => none
  | some y => match D (S ^^^ P) with
    | none => none
    | some lw => some (y / 3 + lw.1, y % 3 * onesN P + lw.2 + 3 * onesN (S ^^^ P))
def SubP (S P : Nat) : Prop := (∀ g : Nat, P.testBit g = true → S.testBit g = true) ∧ ∃ g : Nat, P.testBit g = true ∧ ∀ h : Nat, S.testBit h = true → g ≤ h
def BestC {α : Type} (c : α → Option (Nat × Nat)) (Q : α → Prop) : Option (Nat × Nat) → Prop
  | none => ∀ P : α, Q P → c P = none
  | some x => (∃ P : α, Q P ∧ c P = some x) ∧ ∀ (P : α) (y : Nat × Nat), Q P → c P = some y → lexle x.1 x.2 y.1 y.2
theorem cand_sound {o : Nat → Option Nat} {D : Nat → Option (Nat × Nat)} (hO : OffOk o) {S P : Nat} {y : Nat × Nat} (hS : S < 256) (hP : SubP S P) (hD : BestS o (S ^^^ P) (D (S ^^^ P))) (hc : candP o D S P = some y) :
    y.1 < 1000000 ∧ ∃ r : Nat → Nat, RG S r ∧ costR o S r 8 = y.1 ∧ valN (digN o S r) 8 = y.2 := by
  rw [candP] at hc
  cases ho : o P with
  | none => rw [ho] at hc; cases hc
  | some z =>
    rw [ho] at hc
    cases hd : D (S ^^^ P) with
    | none => rw [hd] at hc; cases hc
    | some lw =>
      rw [hd] at hc hD
      simp only [Option.some.injEq] at hc
      subst hc
      obtain ⟨h1, ⟨r', h2, h3, h4⟩, _⟩ := hD
      obtain ⟨hs1, g0, hs2, hs3⟩ := hP
      have hz := hO P z ho
      have eP : P = setOf S (fun g => if P.testBit g = true then 0 else r' g + 1) 0 := by
        apply Nat.eq_of_testBit_eq
        intro g
        rw [Bool.eq_iff_iff, setOf_tb]
        constructor
        · intro h; exact ⟨tb_lt hS (hs1 g h), hs1 g h, if_pos h⟩
        · rintro ⟨_, _, h5⟩
          have h5' : (if P.testBit g = true then 0 else r' g + 1) = 0 := h5
          split at h5'
          · assumption
          · omega
      have er : ∀ g : Nat, (S ^^^ P).testBit g = true → (fun g => if P.testBit g = true then 0 else r' g + 1) g = r' g + 1 := by
        intro g hg
        simp only []
        split
        · rename_i h5
          rw [Nat.testBit_xor, hs1 g h5, h5] at hg; cases hg
        · rfl
      have eR : RG S (fun g => if P.testBit g = true then 0 else r' g + 1) := by
        intro g hg q hq
        simp only [] at hq
        split at hq
        · omega
        · rename_i h5
          have h6 : (S ^^^ P).testBit g = true := by rw [Nat.testBit_xor, hg]; simpa using h5
          rcases Nat.eq_zero_or_pos q with h7 | h7
          · refine ⟨g0, ?_, hs1 g0 hs2, ?_⟩
            · have := hs3 g hg
              rcases Nat.lt_or_eq_of_le this with h8 | h8
              · exact h8
              · subst h8; exact absurd hs2 h5
            · simp only [if_pos hs2]; omega
          · obtain ⟨j, j1, j2, j3⟩ := h2 g h6 (q - 1) (by omega)
            have j4 := er j j2
            have j5 : S.testBit j = true := by
              cases h9 : S.testBit j with
              | true => rfl
              | false =>
                rw [Nat.testBit_xor, h9, Bool.false_xor] at j2
                rw [hs1 j j2] at h9; cases h9
            exact ⟨j, j1, j5, by rw [j4]; omega⟩
      have e9 := cost_shift (o := o) eP er 8
      rw [costR_9 eR, h3] at e9
      have ev := val_shift (o := o) hS eP er 8
      have e0 : chN o P = z / 3 := by
        rw [chN, if_neg (tb_nz hs2), ho]
      have e1 : caN o P = z % 3 := by rw [caN, ho]
      have e2 := costR_le hO (S := S ^^^ P) (r := r') 8 (by omega)
      rw [e0] at e9
      rw [e1, h4] at ev
      have e3 := e2.1
      rw [h3] at e3
      exact ⟨show z / 3 + lw.1 < 1000000 by omega, _, eR, e9, ev⟩
theorem cand_complete {o : Nat → Option Nat} {D : Nat → Option (Nat × Nat)} (hO : OffOk o) {S : Nat} {r : Nat → Nat} (hS : S < 256) (hS0 : S ≠ 0) (hD : ∀ P : Nat, SubP S P → BestS o (S ^^^ P) (D (S ^^^ P))) (hr : RG S r) (hc : costR o S r 8 < 1000000) :
    ∃ (P : Nat) (y : Nat × Nat), SubP S P ∧ candP o D S P = some y ∧ lexle y.1 y.2 (costR o S r 8) (valN (digN o S r) 8) := by
  have hlow : ∃ g : Nat, S.testBit g = true ∧ ∀ h : Nat, S.testBit h = true → g ≤ h := by
    obtain ⟨i, hi⟩ := nz_tb hS0
    have : ∀ n i : Nat, i ≤ n → S.testBit i = true → ∃ g : Nat, S.testBit g = true ∧ ∀ h : Nat, S.testBit h = true → g ≤ h := by
      intro n
      induction n with
      | zero => intro i h1 h2; exact ⟨i, h2, fun h _ => by omega⟩
      | succ n ih =>
        intro i h1 h2
        by_cases h3 : ∃ j : Nat, j < i ∧ S.testBit j = true
        · obtain ⟨j, h4, h5⟩ := h3
          exact ih j (by omega) h5
        · refine ⟨i, h2, fun h h4 => ?_⟩
          rcases Nat.lt_or_ge h i with h5 | h5
          · exact absurd ⟨h, h5, h4⟩ h3
          · exact h5
    exact this i i (Nat.le_refl _) hi
  obtain ⟨g0, hg1, hg2⟩ := hlow
  have hsub : SubP S (setOf S r 0) := by
    refine ⟨fun g h => ((setOf_tb 0 g).mp h).2.1, g0, (setOf_tb 0 g0).mpr ⟨tb_lt hS hg1, hg1, ?_⟩, hg2⟩
    rcases Nat.eq_zero_or_pos (r g0) with h0 | h0
    · exact h0
    · obtain ⟨j, j1, j2, j3⟩ := hr g0 hg1 0 h0
      have := hg2 j j2
      omega
  have er : ∀ g : Nat, (S ^^^ setOf S r 0).testBit g = true → r g = (fun g => r g - 1) g + 1 := by
    intro g hg
    rw [Nat.testBit_xor] at hg
    have h1 : S.testBit g = true := by
      cases h9 : S.testBit g with
      | true => rfl
      | false =>
        rw [h9, Bool.false_xor] at hg
        rw [hsub.1 g hg] at h9; cases h9
    have h2 : (setOf S r 0).testBit g = false := by
      rw [h1] at hg; simpa using hg
    have h3 : ¬ r g = 0 := by
      intro e
      rw [(setOf_tb 0 g).mpr ⟨tb_lt hS h1, h1, e⟩] at h2; cases h2
    show r g = r g - 1 + 1
    omega
  have hin : ∀ g : Nat, (S ^^^ setOf S r 0).testBit g = true → S.testBit g = true := by
    intro g hg
    rw [Nat.testBit_xor] at hg
    cases h9 : S.testBit g with
    | true => rfl
    | false =>
      rw [h9, Bool.false_xor] at hg
      rw [hsub.1 g hg] at h9; cases h9
  have eR : RG (S ^^^ setOf S r 0) (fun g => r g - 1) := by
    intro g hg q hq
    simp only [] at hq
    obtain ⟨j, j1, j2, j3⟩ := hr g (hin g hg) (q + 1) (by omega)
    refine ⟨j, j1, ?_, show r j - 1 = q by omega⟩
    rw [Nat.testBit_xor, j2]
    have : (setOf S r 0).testBit j = false := by
      cases h9 : (setOf S r 0).testBit j with
      | false => rfl
      | true => rw [setOf_tb] at h9; omega
    rw [this]; rfl
  have e9 := cost_shift (o := o) rfl er 8
  rw [costR_9 hr] at e9
  have ev := val_shift (o := o) hS rfl er 8
  have hch := chN_le hO (P := setOf S r 0) (by omega)
  obtain ⟨x, hx, hx2⟩ := hch.2 (tb_nz ((setOf_tb 0 g0).mpr ⟨tb_lt hS hg1, hg1, by
    rcases Nat.eq_zero_or_pos (r g0) with h0 | h0
    · exact h0
    · obtain ⟨j, j1, j2, j3⟩ := hr g0 hg1 0 h0
      have := hg2 j j2
      omega⟩))
  have hDP := hD _ hsub
  have hca : caN o (setOf S r 0) = x % 3 := by rw [caN, hx]
  cases hd : D (S ^^^ setOf S r 0) with
  | none =>
    rw [hd] at hDP
    have := hDP _ eR
    omega
  | some lw =>
    rw [hd] at hDP
    refine ⟨setOf S r 0, (x / 3 + lw.1, x % 3 * onesN (setOf S r 0) + lw.2 + 3 * onesN (S ^^^ setOf S r 0)), hsub, ?_, ?_⟩
    · rw [candP, hx]; simp only [hd]
    · have h5 := hDP.2.2 _ eR (by omega)
      rw [e9, ev, hca, hx2]
      rcases h5 with h5 | ⟨h5, h6⟩
      · exact Or.inl (show x / 3 + lw.1 < _ by omega)
      · refine Or.inr ⟨show x / 3 + lw.1 = _ by omega, ?_⟩
        show x % 3 * onesN (setOf S r 0) + lw.2 + 3 * onesN (S ^^^ setOf S r 0) ≤ _
        rw [onesN, onesN]
        generalize x % 3 * valN (fun g => ((setOf S r 0).testBit g).toNat) 8 = t
        omega
theorem dp_step {o : Nat → Option Nat} {D : Nat → Option (Nat × Nat)} (hO : OffOk o) {S : Nat} {x : Option (Nat × Nat)} (hS : S < 256) (hS0 : S ≠ 0) (hD : ∀ P : Nat, SubP S P → BestS o (S ^^^ P) (D (S ^^^ P))) (hx : BestC (candP o D S) (SubP S) x) : BestS o S x := by
  cases x with
  | none =>
    intro r hr
    rcases Nat.lt_or_ge (costR o S r 8) 1000000 with h | h
    · obtain ⟨P, y, h1, h2, _⟩ := cand_complete hO hS hS0 hD hr h
      rw [hx P h1] at h2; cases h2
    · exact h
  | some x =>
    obtain ⟨⟨P, h1, h2⟩, h3⟩ := hx
    obtain ⟨h4, h5⟩ := cand_sound hO hS h1 (hD P h1) h2
    refine ⟨h4, h5, ?_⟩
    intro r hr h
    obtain ⟨P, y, h6, h7, h8⟩ := cand_complete hO hS hS0 hD hr h
    exact lexle_trans (h3 P y h6 h7) h8
theorem dp_zero {o : Nat → Option Nat} : BestS o 0 (some (0, 0)) := by
  have h1 : ∀ (r : Nat → Nat) (q : Nat), setOf 0 r q = 0 := by
    intro r q
    apply Nat.eq_of_testBit_eq
    intro g
    rw [Bool.eq_iff_iff, setOf_tb]
    simp
  have h2 : ∀ (r : Nat → Nat) (n : Nat), costR o 0 r n = 0 := by
    intro r n
    induction n with
    | zero => rfl
    | succ n ih => rw [costR, ih, h1, chN_0]
  have h3 : ∀ (r : Nat → Nat) (n : Nat), valN (digN o 0 r) n = 0 := by
    intro r n
    induction n with
    | zero => rfl
    | succ n ih => rw [valN, ih, digN, if_neg (by simp)]
  refine ⟨by omega, ⟨fun _ => 0, ?_, h2 _ 8, h3 _ 8⟩, fun r _ _ => ?_⟩
  · intro g hg; simp at hg
  · rw [h2, h3]; exact Or.inr ⟨rfl, Nat.le_refl _⟩
/-- one candidate more -/
def mixC (x c : Option (Nat × Nat)) : Option (Nat × Nat) := match c with
  | none => x
  | some y => match x with
    | none => some y
    | some z => if y.1 < z.1 ∨ (y.1 = z.1 ∧ y.2 < z.2) then some y else some z
theorem mix_best {α : Type} {c : α → Option (Nat × Nat)} {Q : α → Prop} {x : Option (Nat × Nat)} (P0 : α) (h : BestC c Q x) : BestC c (fun P => Q P ∨ P = P0) (mixC x (c P0)) := by
  cases hc : c P0 with
  | none =>
    show BestC c _ x
    cases x with
    | none =>
      rintro P (h1 | h1)
      · exact h P h1
      · rw [h1, hc]
    | some z =>
      obtain ⟨⟨P, h1, h2⟩, h3⟩ := h
      refine ⟨⟨P, Or.inl h1, h2⟩, ?_⟩
      rintro P y (h4 | h4) h5
      · exact h3 P y h4 h5
      · rw [h4, hc] at h5; cases h5
  | some y =>
    cases x with
    | none =>
      show BestC c _ (some y)
      refine ⟨⟨P0, Or.inr rfl, hc⟩, ?_⟩
      rintro P w (h4 | h4) h5
      · rw [h P h4] at h5; cases h5
      · rw [h4, hc] at h5; cases h5; exact Or.inr ⟨rfl, Nat.le_refl _⟩
    | some z =>
      obtain ⟨⟨P, h1, h2⟩, h3⟩ := h
      show BestC c _ (if y.1 < z.1 ∨ (y.1 = z.1 ∧ y.2 < z.2) then some y else some z)
      by_cases hlt : y.1 < z.1 ∨ (y.1 = z.1 ∧ y.2 < z.2)
      · rw [if_pos hlt]
        refine ⟨⟨P0, Or.inr rfl, hc⟩, ?_⟩
        rintro P w (h4 | h4) h5
        · refine lexle_trans ?_ (h3 P w h4 h5)
          rcases hlt with h6 | ⟨h6, h7⟩
          · exact Or.inl h6
          · exact Or.inr ⟨h6, by omega⟩
        · rw [h4, hc] at h5; cases h5; exact Or.inr ⟨rfl, Nat.le_refl _⟩
      · rw [if_neg hlt]
        refine ⟨⟨P, Or.inl h1, h2⟩, ?_⟩
        rintro P w (h4 | h4) h5
        · exact h3 P w h4 h5
        · rw [h4, hc] at h5; cases h5
          rcases Nat.lt_trichotomy z.1 y.1 with h6 | h6 | h6
          · exact Or.inl h6
          · refine Or.inr ⟨h6, ?_⟩
            rcases Nat.lt_or_ge y.2 z.2 with h7 | h7
            · exact absurd (Or.inr ⟨h6.symm, h7⟩) hlt
            · exact h7
          · exact absurd (Or.inl h6) hlt
theorem BestC_congr {α : Type} {c c' : α → Option (Nat × Nat)} {Q Q' : α → Prop} {x : Option (Nat × Nat)} (hQ : ∀ P : α, Q P ↔ Q' P) (hc : ∀ P : α, Q P → c P = c' P) (h : BestC c Q x) : BestC c' Q' x := by
  cases x with
  | none => intro P h1; rw [← hc P ((hQ P).mpr h1)]; exact h P ((hQ P).mpr h1)
  | some x =>
    obtain ⟨⟨P, h1, h2⟩, h3⟩ := h
    refine ⟨⟨P, (hQ P).mp h1, (hc P h1) ▸ h2⟩, fun P y h4 h5 => ?_⟩
    have h6 := (hQ P).mpr h4
    exact h3 P y h6 ((hc P h6).trans h5)
theorem mix_bestE {α : Type} {c : α → Option (Nat × Nat)} {Q Q' : α → Prop} {x : Option (Nat × Nat)} (P0 : α) (h0 : Q' P0) (he : ∀ P : α, Q' P → c P = c P0) (h : BestC c Q x) : BestC c (fun P => Q P ∨ Q' P) (mixC x (c P0)) := by
  have h1 := mix_best P0 h
  cases hx : mixC x (c P0) with
  | none =>
    rw [hx] at h1
    rintro P (h2 | h2)
    · exact h1 P (Or.inl h2)
    · rw [he P h2]; exact h1 P0 (Or.inr rfl)
  | some y =>
    rw [hx] at h1
    obtain ⟨⟨P, h2, h3⟩, h4⟩ := h1
    refine ⟨⟨P, ?_, h3⟩, ?_⟩
    · rcases h2 with h2 | h2
      · exact Or.inl h2
      · subst h2; exact Or.inr h0
    · rintro P w (h5 | h5) h6
      · exact h4 P w (Or.inl h5) h6
      · rw [he P h5] at h6; exact h4 P0 w (Or.inr rfl) h6
