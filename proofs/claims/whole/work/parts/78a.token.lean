/-! PURE, 30: tokens -/
def isL (x : Nat) : Bool := decide (97 ≤ x) && decide (x ≤ 122)
def isD (x : Nat) : Bool := decide (48 ≤ x) && decide (x ≤ 57)
def isB (x : Nat) : Bool := decide (x = 32) || decide (x = 10)
theorem cL256 : ∀ x : Fin 256, (if jbyte (nI x.val) < 97 then (0 : Int32) else (if 122 < jbyte (nI x.val) then 0 else 1)) = (if isL x.val then nI 1 else nI 0) ∧ (if jbyte (nI x.val) < 48 then (0 : Int32) else (if 57 < jbyte (nI x.val) then 0 else 1)) = (if isD x.val then nI 1 else nI 0) ∧ (if jbyte (nI x.val) = 32 then (1 : Int32) else (if jbyte (nI x.val) = 10 then 1 else 0)) = (if isB x.val then nI 1 else nI 0) ∧ (isD x.val = true → jbyte (nI x.val) = nI x.val) ∧ (jbyte (nI x.val) = 59 ↔ x.val = 59) := by decide +kernel
theorem mL256 : ∀ x : Fin 256, (if nI x.val < 97 then (0 : Int32) else (if 122 < nI x.val then 0 else 1)) = (if isL x.val then nI 1 else nI 0) ∧ (if nI x.val < 48 then (0 : Int32) else (if 57 < nI x.val then 0 else 1)) = (if isD x.val then nI 1 else nI 0) ∧ ((isB x.val = true ∧ (nI x.val = 32 ∨ nI x.val = 10)) ∨ (isB x.val = false ∧ ¬ nI x.val = 32 ∧ ¬ nI x.val = 10)) ∧ (nI x.val = 59 ↔ x.val = 59) ∧ (isL x.val = true → isD x.val = false) := by decide +kernel
theorem cL {x : Nat} (h : x < 256) : f_X3_isLetter (jbyte (nI x)) = if isL x then nI 1 else nI 0 := (cL256 ⟨x, h⟩).1
theorem cD {x : Nat} (h : x < 256) : f_X3_isDigit (jbyte (nI x)) = if isD x then nI 1 else nI 0 := (cL256 ⟨x, h⟩).2.1
theorem cB {x : Nat} (h : x < 256) : f_X3_isBlank (jbyte (nI x)) = if isB x then nI 1 else nI 0 := (cL256 ⟨x, h⟩).2.2.1
theorem mL {x : Nat} (h : x < 256) : f_X7_isLetter (nI x) = if isL x then nI 1 else nI 0 := (mL256 ⟨x, h⟩).1
theorem mD {x : Nat} (h : x < 256) : f_X7_isDigit (nI x) = if isD x then nI 1 else nI 0 := (mL256 ⟨x, h⟩).2.1
theorem LD {x : Nat} (h : isL x = true) : isD x = false := by
  rw [isL, Bool.and_eq_true, decide_eq_true_eq, decide_eq_true_eq] at h
  rw [isD, Bool.and_eq_false_iff, decide_eq_false_iff_not, decide_eq_false_iff_not]
  omega
/-- the tape's bytes on both sides -/
def TapeB (b : Nat → Nat) (t : Nat) (tB mA : Nat → Int32) : Prop := t ≤ 740 ∧ ∀ i : Nat, i < t → b i < 256 ∧ mA i = nI (b i) ∧ tB i = jbyte (nI (b i))
def skp (b : Nat → Nat) (lim : Nat) : Nat → Nat → Nat
  | 0, q => q
  | n + 1, q => if q < lim ∧ isB (b q) = true then skp b lim n (q + 1) else q
theorem skp_ge {b : Nat → Nat} {lim : Nat} : ∀ n q : Nat, q ≤ skp b lim n q := by
  intro n
  induction n with
  | zero => intro q; exact Nat.le_refl _
  | succ n ih =>
    intro q
    rw [skp]
    split
    · have := ih (q + 1); omega
    · exact Nat.le_refl _
theorem skp_le {b : Nat → Nat} {lim : Nat} : ∀ n q : Nat, q ≤ lim → skp b lim n q ≤ lim := by
  intro n
  induction n with
  | zero => intro q h; exact h
  | succ n ih =>
    intro q h
    rw [skp]
    split
    · exact ih (q + 1) (by omega)
    · exact h
theorem skp_min {b : Nat → Nat} {l1 l2 : Nat} (hl : l1 ≤ l2) : ∀ n q : Nat, q ≤ l1 → skp b l1 n q = min (skp b l2 n q) l1 := by
  intro n
  induction n with
  | zero => intro q h; rw [skp, skp]; omega
  | succ n ih =>
    intro q h
    rcases Nat.lt_or_ge q l1 with h1 | h1
    · rw [skp, skp]
      by_cases h2 : isB (b q) = true
      · rw [if_pos ⟨h1, h2⟩, if_pos ⟨by omega, h2⟩]
        exact ih (q + 1) (by omega)
      · rw [if_neg (fun h => h2 h.2), if_neg (fun h => h2 h.2)]; omega
    · have h3 := skp_ge (b := b) (lim := l2) (n + 1) q
      rw [skp, if_neg (fun h => by omega)]
      omega
def rnE (b : Nat → Nat) (t : Nat) : Nat → Nat → Nat
  | 0, q => q
  | n + 1, q => if q < t ∧ (isL (b q) = true ∨ isD (b q) = true) then rnE b t n (q + 1) else q
theorem rnE_ge {b : Nat → Nat} {t : Nat} : ∀ n q : Nat, q ≤ rnE b t n q := by
  intro n
  induction n with
  | zero => intro q; exact Nat.le_refl _
  | succ n ih =>
    intro q
    rw [rnE]
    split
    · have := ih (q + 1); omega
    · exact Nat.le_refl _
theorem rnE_le {b : Nat → Nat} {t : Nat} : ∀ n q : Nat, q ≤ t → rnE b t n q ≤ t := by
  intro n
  induction n with
  | zero => intro q h; exact h
  | succ n ih =>
    intro q h
    rw [rnE]
    split
    · exact ih (q + 1) (by omega)
    · exact h
/-- digits of a run, its value as a number, as a word -/
def ndN (b : Nat → Nat) (s : Nat) : Nat → Nat
  | 0 => 0
  | k + 1 => ndN b s k + if isD (b (s + k)) then 1 else 0
def dvN (b : Nat → Nat) (s : Nat) : Nat → Nat
  | 0 => 0
  | k + 1 => 10 * dvN b s k + (b (s + k) - 48)
def wvN (b : Nat → Nat) (s : Nat) : Nat → Nat
  | 0 => 0
  | k + 1 => 27 * wvN b s k + (b (s + k) - 96)
theorem ndN_le {b : Nat → Nat} {s : Nat} : ∀ k : Nat, ndN b s k ≤ k := by
  intro k
  induction k with
  | zero => exact Nat.le_refl _
  | succ k ih => rw [ndN]; split <;> omega
theorem dvN_lt {b : Nat → Nat} {s : Nat} : ∀ k : Nat, ndN b s k = k → dvN b s k < 10 ^ k := by
  intro k
  induction k with
  | zero => intro _; exact Nat.one_pos
  | succ k ih =>
    intro h
    rw [ndN] at h
    have h1 := ndN_le (b := b) (s := s) k
    by_cases h2 : isD (b (s + k)) = true
    · rw [if_pos h2] at h
      have h3 := ih (by omega)
      rw [isD, Bool.and_eq_true, decide_eq_true_eq, decide_eq_true_eq] at h2
      rw [dvN, Nat.pow_succ]; omega
    · rw [if_neg h2] at h; omega
theorem wvN_lt {b : Nat → Nat} {s : Nat} : ∀ k : Nat, (∀ j : Nat, j < k → isL (b (s + j)) = true) → wvN b s k < 27 ^ k := by
  intro k
  induction k with
  | zero => intro _; exact Nat.one_pos
  | succ k ih =>
    intro h
    have h1 := ih (fun j hj => h j (by omega))
    have h2 := h k (by omega)
    rw [isL, Bool.and_eq_true, decide_eq_true_eq, decide_eq_true_eq] at h2
    rw [wvN, Nat.pow_succ]; omega
theorem nd0_L {b : Nat → Nat} {s : Nat} : ∀ k : Nat, (∀ j : Nat, j < k → isL (b (s + j)) = true ∨ isD (b (s + j)) = true) → ndN b s k = 0 → ∀ j : Nat, j < k → isL (b (s + j)) = true := by
  intro k
  induction k with
  | zero => intro _ _ j hj; omega
  | succ k ih =>
    intro h1 h2 j hj
    rw [ndN] at h2
    rcases Nat.lt_succ_iff_lt_or_eq.mp hj with h3 | h3
    · exact ih (fun j hj => h1 j (by omega)) (by omega) j h3
    · subst h3
      rcases h1 j (by omega) with h4 | h4
      · exact h4
      · rw [if_pos h4] at h2; omega
section TOKEN
variable {b : Nat → Nat} {t : Nat} {tB mA : Nat → Int32}
theorem c_byteAt (h : TapeB b t tB mA) {q : Nat} (hq : q < t) : f_X5_byteAt (nI q) tB (nI t) = jbyte (nI (b q)) := by
  have ht := h.1
  rw [f_X5_byteAt, if_neg (nI_pos (by omega)), if_neg (nI_ge hq (by omega)), lit 740, if_neg (nI_ge (by omega) (by omega)), cl (by omega), (h.2 q hq).2.2]
theorem jmin_nI {x y : Nat} (hx : x < 2 ^ 31) (hy : y < 2 ^ 31) : jmin (nI x) (nI y) = nI (min x y) := by
  rw [jmin]
  by_cases h : y < x
  · rw [if_pos (nI_lt h hx), Nat.min_eq_right (by omega)]
  · rw [if_neg (nI_nlt (by omega) hy), Nat.min_eq_left (by omega)]
theorem c_skpL (h : TapeB b t tB mA) {lim : Nat} (hl : lim = min t 700) : ∀ (n q : Nat), lim < q + n → q ≤ lim → f_X3_advance_L26 tB (nI t) n (nI q) = nI (skp b lim n q) ∧ k_X3_advance_L26 tB (nI t) n (nI q) := by
  have ht := h.1
  intro n
  induction n with
  | zero => intro q h1 h2; omega
  | succ n ih =>
    intro q h1 h2
    rw [f_X3_advance_L26, k_X3_advance_L26, f_X5_size, lit 700, jmin_nI (by omega) (by omega), ← hl, skp]
    by_cases h3 : q = lim
    · have g3 : nI lim ≤ nI q := nI_le (by omega) (by omega)
      rw [if_pos g3, if_pos g3, if_neg (fun h => by omega)]
      exact ⟨rfl, trivial⟩
    · have g3 : ¬ nI lim ≤ nI q := nI_ge (by omega) (by omega)
      rw [if_neg g3, if_neg g3, c_byteAt h (by omega), cB (h.2 q (by omega)).1, lit 0]
      by_cases h4 : isB (b q) = true
      · rw [if_pos h4, if_neg n10, if_neg n10, if_pos ⟨by omega, h4⟩, nI_1]
        exact ih (q + 1) (by omega) (by omega)
      · rw [if_neg h4, if_pos rfl, if_pos rfl, if_neg (fun h => h4 h.2)]
        exact ⟨rfl, trivial⟩
theorem m_skpL (h : TapeB b t tB mA) : ∀ (n q : Nat), t < q + n → q ≤ t → f_X7_go_L0 mA (nI t) n (nI q) = nI (skp b t n q) ∧ k_X7_go_L0 mA (nI t) n (nI q) := by
  have ht := h.1
  intro n
  induction n with
  | zero => intro q h1 h2; omega
  | succ n ih =>
    intro q h1 h2
    rw [f_X7_go_L0, k_X7_go_L0, skp]
    by_cases h3 : q = t
    · have g3 : nI t ≤ nI q := nI_le (by omega) (by omega)
      rw [if_pos g3, if_pos g3, if_neg (fun h => by omega)]
      exact ⟨rfl, trivial⟩
    · have g3 : ¬ nI t ≤ nI q := nI_ge (by omega) (by omega)
      have v : vp_in (nI q) 740 := vp_in_nI (by omega) (by omega)
      obtain ⟨b1, b2, b3⟩ := h.2 q (by omega)
      rw [if_neg g3, if_neg g3, cl (show q < 2 ^ 31 by omega), b2, nI_1]
      obtain ⟨r1, r2⟩ := ih (q + 1) (by omega) (by omega)
      rcases (mL256 ⟨b q, b1⟩).2.2.1 with ⟨e1, e2⟩ | ⟨e1, e2, e3⟩
      · have e1' : isB (b q) = true := e1
        have gq : q < t ∧ isB (b q) = true := ⟨by omega, e1'⟩
        rw [if_pos gq]
        by_cases e3 : nI (b q) = 32
        · rw [if_pos e3, if_pos e3]
          exact ⟨r1, v, r2⟩
        · have e4 : nI (b q) = 10 := e2.resolve_left e3
          rw [if_neg e3, if_neg e3, if_pos e4, if_pos e4]
          exact ⟨r1, v, v, r2⟩
      · have e1' : ¬ isB (b q) = true := by rw [show isB (b q) = false from e1]; decide
        have e2' : ¬ nI (b q) = 32 := e2
        have e3' : ¬ nI (b q) = 10 := e3
        have gq : ¬ (q < t ∧ isB (b q) = true) := fun h => e1' h.2
        rw [if_neg gq, if_neg e2', if_neg e2', if_neg e3', if_neg e3']
        exact ⟨rfl, v, v, trivial⟩
/-- the class's run -/
theorem c_runL (h : TapeB b t tB mA) {s : Nat} : ∀ (n k : Nat) (u : Int32), t < s + k + n → s + k ≤ t → (ndN b s k = k → k ≤ 3 → u = nI (dvN b s k)) →
    k_X3_scanRun_L7 tB (nI t) n (nI (ndN b s k)) (nI (s + k)) u ∧ ∃ u' : Int32, f_X3_scanRun_L7 tB (nI t) n (nI (ndN b s k)) (nI (s + k)) u = (nI (ndN b s (rnE b t n (s + k) - s)), nI (rnE b t n (s + k)), u') ∧ (ndN b s (rnE b t n (s + k) - s) = rnE b t n (s + k) - s → rnE b t n (s + k) - s ≤ 3 → u' = nI (dvN b s (rnE b t n (s + k) - s))) := by
  have ht := h.1
  intro n
  induction n with
  | zero => intro k u h1 h2; omega
  | succ n ih =>
    intro k u h1 h2 hu
    have hk := ndN_le (b := b) (s := s) k
    rw [f_X3_scanRun_L7, k_X3_scanRun_L7, f_X5_size, rnE]
    by_cases h3 : s + k = t
    · have g3 : nI t ≤ nI (s + k) := nI_le (by omega) (by omega)
      rw [if_pos g3, if_pos g3, if_neg (fun h => by omega), show s + k - s = k by omega]
      exact ⟨trivial, u, rfl, hu⟩
    · have g3 : ¬ nI t ≤ nI (s + k) := nI_ge (by omega) (by omega)
      obtain ⟨b1, b2, b3⟩ := h.2 (s + k) (by omega)
      rw [if_neg g3, if_neg g3, c_byteAt h (by omega), cL b1, cD b1, lit 0, lit 3, nI_1, nI_1]
      by_cases hL : isL (b (s + k)) = true
      · have hD := LD hL
        have e : ndN b s (k + 1) = ndN b s k := by rw [ndN, hD]; rfl
        obtain ⟨r1, u', r2, r3⟩ := ih (k + 1) u (by omega) (by omega) (fun h5 _ => by omega)
        rw [e, show s + (k + 1) = s + k + 1 by omega] at r1 r2
        rw [show s + (k + 1) = s + k + 1 by omega] at r3
        rw [if_pos hL, if_neg n10, if_neg n10, hD, if_neg (show ¬ false = true by decide), if_pos rfl, if_pos rfl, if_pos ⟨by omega, Or.inl hL⟩]
        exact ⟨r1, u', r2, r3⟩
      · rw [if_neg hL, if_pos rfl, if_pos rfl]
        by_cases hD : isD (b (s + k)) = true
        · have e : ndN b s (k + 1) = ndN b s k + 1 := by rw [ndN, if_pos hD]
          have ed : jbyte (nI (b (s + k))) = nI (b (s + k)) := (cL256 ⟨b (s + k), b1⟩).2.2.2.1 hD
          have gq : s + k < t ∧ (isL (b (s + k)) = true ∨ isD (b (s + k)) = true) := ⟨by omega, Or.inr hD⟩
          rw [if_pos hD, if_neg n10, if_neg n10, if_neg n10, if_neg n10, if_pos gq]
          by_cases h5 : 3 < ndN b s k + 1
          · have g5 : nI 3 < nI (ndN b s k + 1) := nI_lt h5 (by omega)
            obtain ⟨r1, u', r2, r3⟩ := ih (k + 1) u (by omega) (by omega) (fun h6 h7 => by omega)
            rw [e, show s + (k + 1) = s + k + 1 by omega] at r1 r2
            rw [show s + (k + 1) = s + k + 1 by omega] at r3
            rw [if_pos g5, if_pos g5]
            exact ⟨r1, u', r2, r3⟩
          · have g5 : ¬ nI 3 < nI (ndN b s k + 1) := nI_nlt (by omega) (by omega)
            rw [if_neg g5, if_neg g5, ed]
            obtain ⟨r1, u', r2, r3⟩ := ih (k + 1) (u * 10 + nI (b (s + k)) - 48) (by omega) (by omega) (by
              intro h6 h7
              rw [hu (by omega) (by omega), dvN]
              rw [isD, Bool.and_eq_true, decide_eq_true_eq, decide_eq_true_eq] at hD
              rw [lit 10, lit 48, nI_mul, nI_add, nI_sub (by omega)]
              congr 1; omega)
            rw [e, show s + (k + 1) = s + k + 1 by omega] at r1 r2
            rw [show s + (k + 1) = s + k + 1 by omega] at r3
            exact ⟨r1, u', r2, r3⟩
        · rw [if_neg hD, if_pos rfl, if_pos rfl, if_neg (fun h => h.2.elim hL hD), show s + k - s = k by omega]
          exact ⟨trivial, u, rfl, hu⟩
end TOKEN
