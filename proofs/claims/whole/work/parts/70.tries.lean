/-! PURE, 21: the model's tries -/
def fl (m : Nat) : Nat := 2 ^ m - 1
theorem fl_tb {m h : Nat} : (fl m).testBit h = true ↔ h < m := by rw [fl, Nat.testBit_two_pow_sub_one, decide_eq_true_eq]
theorem setOf_congr {S : Nat} {r r' : Nat → Nat} (h : ∀ j : Nat, S.testBit j = true → r j = r' j) (q : Nat) : setOf S r q = setOf S r' q := by
  apply Nat.eq_of_testBit_eq
  intro g
  rw [Bool.eq_iff_iff, setOf_tb, setOf_tb]
  constructor
  · rintro ⟨h1, h2, h3⟩; exact ⟨h1, h2, by rw [← h g h2]; exact h3⟩
  · rintro ⟨h1, h2, h3⟩; exact ⟨h1, h2, by rw [h g h2]; exact h3⟩
theorem costR_congr {o : Nat → Option Nat} {S : Nat} {r r' : Nat → Nat} (h : ∀ j : Nat, S.testBit j = true → r j = r' j) : ∀ n : Nat, costR o S r n = costR o S r' n := by
  intro n
  induction n with
  | zero => rfl
  | succ n ih => rw [costR, costR, ih, setOf_congr h]
theorem digN_congr {o : Nat → Option Nat} {S : Nat} {r r' : Nat → Nat} (h : ∀ j : Nat, S.testBit j = true → r j = r' j) (g : Nat) : digN o S r g = digN o S r' g := by
  rw [digN, digN]
  split
  · rename_i h1; rw [h g h1, setOf_congr h]
  · rfl
theorem valN_congr {a b : Nat → Nat} : ∀ n : Nat, (∀ k : Nat, k < n → a k = b k) → valN a n = valN b n := by
  intro n
  induction n with
  | zero => intro _; rfl
  | succ n ih => intro h; rw [valN, valN, ih (fun k hk => h k (by omega)), h n (by omega)]
theorem valN_less {a b : Nat → Nat} {k : Nat} (h1 : ∀ j : Nat, j < k → a j = b j) (h2 : a k < b k) : ∀ n : Nat, k < n → (∀ j : Nat, j < n → a j < 32) → valN a n < valN b n := by
  intro n
  induction n with
  | zero => intro h; omega
  | succ n ih =>
    intro h3 h4
    rw [valN, valN]
    rcases Nat.lt_or_ge k n with h5 | h5
    · have h6 := ih h5 (fun j hj => h4 j (by omega))
      have h7 := h4 n (by omega)
      omega
    · have e : k = n := by omega
      subst e
      rw [valN_congr k h1]
      omega
def candR (o : Nat → Option Nat) (m : Nat) (r : Nat → Nat) : Option (Nat × Nat) := if costR o (fl m) r 8 < 1000000 then some (costR o (fl m) r 8, valN (digN o (fl m) r) 8) else none
theorem candR_congr {o : Nat → Option Nat} {m : Nat} {r r' : Nat → Nat} (h : ∀ j : Nat, j < m → r j = r' j) : candR o m r = candR o m r' := by
  have h1 : ∀ j : Nat, (fl m).testBit j = true → r j = r' j := fun j hj => h j (fl_tb.mp hj)
  rw [candR, candR, costR_congr h1, valN_congr 8 (fun k _ => digN_congr h1 k)]
def MBest (o : Nat → Option Nat) (m : Nat) (mB : Nat → Int32) (mE : Int32) (x : Option (Nat × Nat)) : Prop := match x with
  | none => mE = nI 1000000
  | some y => mE = nI y.1 ∧ y.1 < 1000000 ∧ ∃ r : Nat → Nat, RG (fl m) r ∧ costR o (fl m) r 8 = y.1 ∧ valN (digN o (fl m) r) 8 = y.2 ∧ ∀ k : Nat, k < m → mB k = nI (digN o (fl m) r k)
def PreR (g k : Nat) (r : Nat → Nat) : Prop := RG (fl g) r ∧ (∀ h : Nat, h < g → r h < k) ∧ ∀ q : Nat, q < k → ∃ h : Nat, h < g ∧ r h = q
def StM (g : Nat) (r : Nat → Nat) (mW mX : Nat → Int32) : Prop := (∀ h : Nat, h < g → mW h = nI (r h)) ∧ ∀ q : Nat, q < 8 → mX q = nI (setOf (fl g) r q)
def OffM (o : Nat → Option Nat) (m : Nat) (mC mH : Nat → Int32) : Prop := ∀ S : Nat, 1 ≤ S → S < 2 ^ m → mC S = offB (o S) ∧ mH S = nI (chN o S)
theorem pre_le {g k : Nat} {r : Nat → Nat} (h : PreR g k r) : k ≤ g := by
  rcases Nat.eq_zero_or_pos k with h0 | h0
  · omega
  · obtain ⟨j, h1, h2⟩ := h.2.2 (k - 1) (by omega)
    have := RG_le h.1 j (fl_tb.mpr h1)
    omega
theorem set_fl {m : Nat} {r : Nat → Nat} (q : Nat) : setOf (fl m) r q < 2 ^ m := by
  apply Nat.lt_pow_two_of_testBit
  intro i hi
  cases h5 : (setOf (fl m) r q).testBit i with
  | false => rfl
  | true => rw [setOf_tb, fl_tb] at h5; omega
theorem set_pos {m k : Nat} {r : Nat → Nat} (hm : m ≤ 8) (h : PreR m k r) {q : Nat} (hq : q < k) : 1 ≤ setOf (fl m) r q := by
  obtain ⟨j, h1, h2⟩ := h.2.2 q hq
  have : (setOf (fl m) r q).testBit j = true := (setOf_tb q j).mpr ⟨by omega, fl_tb.mpr h1, h2⟩
  have := tb_nz this
  omega
theorem set_none {m k : Nat} {r : Nat → Nat} (h : PreR m k r) {q : Nat} (hq : k ≤ q) : setOf (fl m) r q = 0 := by
  rcases Nat.eq_zero_or_pos (setOf (fl m) r q) with h0 | h0
  · exact h0
  · obtain ⟨j, hj⟩ := nz_tb (x := setOf (fl m) r q) (by omega)
    rw [setOf_tb, fl_tb] at hj
    have := h.2.1 j hj.2.1
    omega
theorem cost_k {o : Nat → Option Nat} {m k : Nat} {r : Nat → Nat} (h : PreR m k r) : ∀ n : Nat, k ≤ n → costR o (fl m) r n = costR o (fl m) r k := by
  intro n
  induction n with
  | zero => intro hk; rw [show k = 0 by omega]
  | succ n ih =>
    intro hk
    rcases Nat.lt_or_ge n k with h1 | h1
    · rw [show k = n + 1 by omega]
    · rw [costR, ih h1, set_none h h1, chN_0, Nat.add_zero]
theorem chN_max {o : Nat → Option Nat} (hO : OffOk o) {P : Nat} : chN o P ≤ 1000000 := by
  rw [chN]
  split
  · omega
  · split
    · omega
    · rename_i x hx
      have := hO P x hx
      omega
theorem cost_max {o : Nat → Option Nat} (hO : OffOk o) {S : Nat} {r : Nat → Nat} : ∀ n : Nat, costR o S r n ≤ 1000000 * n := by
  intro n
  induction n with
  | zero => exact Nat.le_refl _
  | succ n ih => have := chN_max hO (P := setOf S r n); rw [costR]; omega
section TRIES
variable {o : Nat → Option Nat} {m k : Nat} {r : Nat → Nat} {mN mC mH mW mX : Nat → Int32}
theorem m_costL (hO : OffOk o) (hm : m ≤ 8) (hP : PreR m k r) (hS : StM m r mW mX) (hF : OffM o m mC mH) : ∀ (n q : Nat), k < q + n → q ≤ k →
    f_X7_triesS_L85 (nI k) mH mX n (nI (costR o (fl m) r q)) (nI q) = (nI (costR o (fl m) r k), nI k) ∧ k_X7_triesS_L85 (nI k) mH mX n (nI (costR o (fl m) r q)) (nI q) := by
  have hk := pre_le hP
  have h4 : 2 ^ m ≤ 2 ^ 8 := Nat.pow_le_pow_right (by omega) hm
  intro n
  induction n with
  | zero => intro q h1 h2; omega
  | succ n ih =>
    intro q h1 h2
    rw [f_X7_triesS_L85, k_X7_triesS_L85]
    by_cases h5 : q = k
    · have g5 : nI k ≤ nI q := nI_le (by omega) (by omega)
      rw [if_pos g5, if_pos g5, h5]
      exact ⟨rfl, trivial⟩
    · have g5 : ¬ nI k ≤ nI q := nI_ge (by omega) (by omega)
      have s1 := set_fl (m := m) (r := r) q
      have s2 := set_pos hm hP (q := q) (by omega)
      have h7 := ih (q + 1) (by omega) (by omega)
      rw [costR] at h7
      rw [if_neg g5, if_neg g5, cl (show q < 2 ^ 31 by omega), hS.2 q (by omega), cl (show setOf (fl m) r q < 2 ^ 31 by omega), (hF _ s2 s1).2, lit 1, nI_add, nI_add]
      exact ⟨h7.1, vp_in_nI (by omega) (by omega), vp_in_nI (by omega) (by omega), h7.2⟩
/-- a digit, where all parcels have an offer -/
theorem m_dig (hO : OffOk o) (hm : m ≤ 8) (hP : PreR m k r) (hS : StM m r mW mX) (hF : OffM o m mC mH) (hc : costR o (fl m) r 8 < 1000000) {g : Nat} (hg : g < m) :
    (3 * (mW g) + (mC (Int32.toNatClampNeg (mX (Int32.toNatClampNeg (mW g)))))) = nI (digN o (fl m) r g) ∧ vp_in (mW g) 8 ∧ vp_in (mX (Int32.toNatClampNeg (mW g))) 256 := by
  have hk := pre_le hP
  have h4 : 2 ^ m ≤ 2 ^ 8 := Nat.pow_le_pow_right (by omega) hm
  have hrg := hP.2.1 g hg
  have s1 := set_fl (m := m) (r := r) (r g)
  have s2 := set_pos hm hP hrg
  have c1 := (costR_le hO 8 hc).2 (r g) (by omega)
  obtain ⟨x, x1, x2⟩ := (chN_le hO c1).2 (by omega)
  rw [hS.1 g hg, cl (show r g < 2 ^ 31 by omega), hS.2 (r g) (by omega), cl (show setOf (fl m) r (r g) < 2 ^ 31 by omega), (hF _ s2 s1).1, x1, lit 3, show offB (some x) = nI (x % 3) from rfl, nI_mul, nI_add, digN, if_pos (fl_tb.mpr hg), caN, x1]
  exact ⟨rfl, vp_in_nI (by omega) (by omega), vp_in_nI (by omega) (by omega)⟩
theorem m_lessL (hO : OffOk o) (hm : m ≤ 8) (hN : mN 1 = nI m) (hP : PreR m k r) (hS : StM m r mW mX) (hF : OffM o m mC mH) (hc : costR o (fl m) r 8 < 1000000) {mB : Nat → Int32} {r0 : Nat → Nat} (h0 : RG (fl m) r0) (hB : ∀ k : Nat, k < m → mB k = nI (digN o (fl m) r0 k)) : ∀ (n g : Nat), m < g + n → g ≤ m → (∀ j : Nat, j < g → digN o (fl m) r j = digN o (fl m) r0 j) →
    (f_X7_isLess_L2 mN mC mW mB mX n (nI g) = if valN (digN o (fl m) r) 8 < valN (digN o (fl m) r0) 8 then 1 else 0) ∧ k_X7_isLess_L2 mN mC mW mB mX n (nI g) := by
  intro n
  induction n with
  | zero => intro q h1 h2; omega
  | succ n ih =>
    intro g h1 h2 he
    rw [f_X7_isLess_L2, k_X7_isLess_L2, lit 1, cl (show 1 < 2 ^ 31 by omega), hN]
    by_cases h5 : g = m
    · have g5 : nI m ≤ nI g := nI_le (by omega) (by omega)
      have e : valN (digN o (fl m) r) 8 = valN (digN o (fl m) r0) 8 := by
        apply valN_congr
        intro j _
        rcases Nat.lt_or_ge j m with h6 | h6
        · exact he j (by omega)
        · rw [digN, digN, if_neg (fun h => by have := fl_tb.mp h; omega), if_neg (fun h => by have := fl_tb.mp h; omega)]
      rw [if_pos g5, if_pos g5, if_neg (by omega)]
      exact ⟨rfl, trivial⟩
    · have g5 : ¬ nI m ≤ nI g := nI_ge (by omega) (by omega)
      have hg : g < m := by omega
      obtain ⟨d1, d2, d3⟩ := m_dig hO hm hP hS hF hc hg
      have v : vp_in (nI g) 8 := vp_in_nI (by omega) (by omega)
      have l1 : ∀ j : Nat, j < 8 → digN o (fl m) r j < 32 := fun j hj => digN_lt hP.1 hj
      have l2 : ∀ j : Nat, j < 8 → digN o (fl m) r0 j < 32 := fun j hj => digN_lt h0 hj
      have l3 := l1 g (by omega)
      have l4 := l2 g (by omega)
      rw [if_neg g5, if_neg g5, cl (show g < 2 ^ 31 by omega), d1, hB g hg]
      by_cases h6 : digN o (fl m) r g = digN o (fl m) r0 g
      · have g6 : nI (digN o (fl m) r g) = nI (digN o (fl m) r0 g) := by rw [h6]
        obtain ⟨r1, r2⟩ := ih (g + 1) (by omega) (by omega) (by
          intro j hj
          rcases Nat.lt_or_ge j g with h7 | h7
          · exact he j h7
          · rw [show j = g by omega]; exact h6)
        rw [if_pos g6, if_pos g6, nI_add]
        exact ⟨r1, v, v, d2, d3, v, r2⟩
      · have g6 : ¬ nI (digN o (fl m) r g) = nI (digN o (fl m) r0 g) := fun e => h6 ((nI_eq (by omega) (by omega)).mp e)
        rw [if_neg g6, if_neg g6]
        by_cases h7 : digN o (fl m) r0 g ≤ digN o (fl m) r g
        · have g7 : nI (digN o (fl m) r0 g) ≤ nI (digN o (fl m) r g) := nI_le h7 (by omega)
          have := valN_less (fun j hj => (he j hj).symm) (show digN o (fl m) r0 g < digN o (fl m) r g by omega) 8 (by omega) l2
          rw [if_pos g7, if_neg (by omega)]
          exact ⟨rfl, v, v, d2, d3, v, v, trivial⟩
        · have g7 : ¬ nI (digN o (fl m) r0 g) ≤ nI (digN o (fl m) r g) := nI_ge (by omega) (by omega)
          have := valN_less he (show digN o (fl m) r g < digN o (fl m) r0 g by omega) 8 (by omega) l1
          rw [if_neg g7, if_pos (by omega)]
          exact ⟨rfl, v, v, d2, d3, v, v, trivial⟩
theorem m_bestL (hO : OffOk o) (hm : m ≤ 8) (hN : mN 1 = nI m) (hP : PreR m k r) (hS : StM m r mW mX) (hF : OffM o m mC mH) (hc : costR o (fl m) r 8 < 1000000) (E : Int32) : ∀ (n g : Nat) (mB : Nat → Int32), m < g + n → g ≤ m → (∀ j : Nat, j < g → mB j = nI (digN o (fl m) r j)) →
    (f_X7_triesS_L150 mN mC mW mX n (nI g) mB E).2.2 = E ∧ (∀ j : Nat, j < m → (f_X7_triesS_L150 mN mC mW mX n (nI g) mB E).2.1 j = nI (digN o (fl m) r j)) ∧ k_X7_triesS_L150 mN mC mW mX n (nI g) mB E := by
  intro n
  induction n with
  | zero => intro q mB h1 h2; omega
  | succ n ih =>
    intro g mB h1 h2 he
    rw [f_X7_triesS_L150, k_X7_triesS_L150, lit 1, cl (show 1 < 2 ^ 31 by omega), hN]
    by_cases h5 : g = m
    · have g5 : nI m ≤ nI g := nI_le (by omega) (by omega)
      rw [if_pos g5, if_pos g5]
      exact ⟨rfl, fun j hj => he j (by omega), trivial⟩
    · have g5 : ¬ nI m ≤ nI g := nI_ge (by omega) (by omega)
      have hg : g < m := by omega
      obtain ⟨d1, d2, d3⟩ := m_dig hO hm hP hS hF hc hg
      have v : vp_in (nI g) 8 := vp_in_nI (by omega) (by omega)
      rw [if_neg g5, if_neg g5, cl (show g < 2 ^ 31 by omega), d1, nI_add]
      obtain ⟨r1, r2, r3⟩ := ih (g + 1) (upd mB g (nI (digN o (fl m) r g))) (by omega) (by omega) (by
        intro j hj
        by_cases h7 : j = g
        · subst h7; exact if_pos rfl
        · exact (if_neg h7).trans (he j (by omega)))
      exact ⟨r1, r2, v, v, d2, d3, v, r3⟩
end TRIES
