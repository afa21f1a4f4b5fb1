/-! PURE, 2: the row of a book, as naturals; both sides' books against it -/
def RowOk (R : Nat → Nat) : Prop :=
  (1 ≤ R 0 ∧ R 0 ≤ 3 ∧ R 1 ≤ 8 ∧ R 2 ≤ 3 ∧ R 3 ≤ 99) ∧
  (∀ c : Nat, c < R 0 → (1 ≤ R (4 + 43 * c) ∧ R (4 + 43 * c) ≤ 99) ∧ (1 ≤ R (5 + 43 * c) ∧ R (5 + 43 * c) ≤ 999) ∧ (1 ≤ R (6 + 43 * c) ∧ R (6 + 43 * c) ≤ 99) ∧ R (7 + 43 * c) ≤ 99 ∧ (1 ≤ R (8 + 43 * c) ∧ R (8 + 43 * c) ≤ 999) ∧ R (9 + 43 * c) ≤ 999 ∧ (1 ≤ R (10 + 43 * c) ∧ R (10 + 43 * c) ≤ 5) ∧ (1 ≤ R (31 + 43 * c) ∧ R (31 + 43 * c) ≤ 3)) ∧
  (∀ c k : Nat, c < R 0 → k < R (10 + 43 * c) → (1 ≤ R (11 + 43 * c + 4 * k) ∧ R (11 + 43 * c + 4 * k) ≤ 99) ∧ ∀ z : Nat, z < 3 → R (12 + 43 * c + 4 * k + z) ≤ 999) ∧
  (∀ c k : Nat, c < R 0 → k < R (31 + 43 * c) → R (32 + 43 * c + 5 * k) ≤ 99 ∧ ∀ w : Nat, w < 4 → R (33 + 43 * c + 5 * k + w) ≤ 3) ∧
  (∀ g : Nat, g < R 1 → (1 ≤ R (133 + 4 * g) ∧ R (133 + 4 * g) ≤ 99) ∧ (1 ≤ R (134 + 4 * g) ∧ R (134 + 4 * g) ≤ 999) ∧ (1 ≤ R (135 + 4 * g) ∧ R (135 + 4 * g) ≤ 999)) ∧
  (∀ g : Nat, g < 8 → R (136 + 4 * g) ≤ 8 ∧ (R 1 ≤ g → R (136 + 4 * g) = 0)) ∧
  (∀ q : Nat, q < 8 → R (165 + 2 * q) < R 0 ∧ R (166 + 2 * q) ≤ 99)
/-- the model's row -/
def RowM (R : Nat → Nat) (mN : Nat → Int32) : Prop := ∀ i : Nat, i < 181 → mN i = nI (R i)
/-- the class's book -/
def BookC (R : Nat → Nat) (bA bB bZ bG bP bQ : Nat → Int32) (bC bM : Int32) : Prop :=
  bC = nI (R 0) ∧ bM = nI (R 1) ∧ (∀ c j : Nat, c < R 0 → j < 6 → bA (6 * c + j) = nI (R (4 + 43 * c + j))) ∧ (∀ c : Nat, c < R 0 → bP c = nI (R (10 + 43 * c))) ∧ (∀ c : Nat, c < R 0 → bQ c = nI (R (31 + 43 * c))) ∧
  (∀ c k w : Nat, c < R 0 → k < R (10 + 43 * c) → w < 4 → bB (20 * c + 4 * k + w) = nI (R (11 + 43 * c + 4 * k + w))) ∧ (∀ c k w : Nat, c < R 0 → k < R (31 + 43 * c) → w < 5 → bZ (15 * c + 5 * k + w) = nI (R (32 + 43 * c + 5 * k + w))) ∧
  (∀ g w : Nat, g < R 1 → w < 3 → bG (3 * g + w) = nI (R (133 + 4 * g + w)))
theorem at_in {i n : Nat} {f : Nat → Int32} (h : i < n) (hn : n < 2 ^ 31) : f_X6_at (nI i) f n = f i := by
  rw [f_X6_at, if_neg (nI_pos (by omega)), if_neg (nI_ge h hn), cl (by omega)]
theorem at_out {x : Int32} {n : Nat} {f : Nat → Int32} (h : x < 0 ∨ nI n ≤ x) : f_X6_at x f n = 0 := by
  rw [f_X6_at]
  by_cases h1 : x < 0
  · rw [if_pos h1]
  · rw [if_neg h1, if_pos (h.resolve_left h1)]
section BOOK
variable {R : Nat → Nat} {bA bB bZ bG bP bQ : Nat → Int32} {bC bM : Int32} {mN : Nat → Int32}
theorem b_carrierNumber (hR : RowOk R) (h : BookC R bA bB bZ bG bP bQ bC bM) {c j : Nat} (hc : c < R 0) (hj : j < 6) : f_X0_carrierNumber (nI c) (nI j) bA = nI (R (4 + 43 * c + j)) := by
  have h3 := hR.1.2.1
  rw [f_X0_carrierNumber, lit 6, nI_mul, nI_add, at_in (by omega) (by omega), ← h.2.2.1 c j hc hj]
  congr 1; omega
theorem b_breakCount (hR : RowOk R) (h : BookC R bA bB bZ bG bP bQ bC bM) {c : Nat} (hc : c < R 0) : f_X0_breakCount (nI c) bP = nI (R (10 + 43 * c)) := by
  have h3 := hR.1.2.1
  rw [f_X0_breakCount, at_in (by omega) (by omega), h.2.2.2.1 c hc]
theorem b_zonesCount (hR : RowOk R) (h : BookC R bA bB bZ bG bP bQ bC bM) {c : Nat} (hc : c < R 0) : f_X0_zonesCount (nI c) bQ = nI (R (31 + 43 * c)) := by
  have h3 := hR.1.2.1
  rw [f_X0_zonesCount, at_in (by omega) (by omega), h.2.2.2.2.1 c hc]
theorem b_breakNumber (hR : RowOk R) (h : BookC R bA bB bZ bG bP bQ bC bM) {c k w : Nat} (hc : c < R 0) (hk : k < R (10 + 43 * c)) (hw : w < 4) : f_X0_breakNumber (nI c) (nI k) (nI w) bB = nI (R (11 + 43 * c + 4 * k + w)) := by
  have h3 := hR.1.2.1
  have h4 := (hR.2.1 c hc).2.2.2.2.2.2.1.2
  rw [f_X0_breakNumber, f_X0_breakStart, lit 5, lit 4, nI_mul, nI_add, nI_mul, nI_add, at_in (by omega) (by omega), ← h.2.2.2.2.2.1 c k w hc hk hw]
  congr 1; omega
theorem b_zonesNumber (hR : RowOk R) (h : BookC R bA bB bZ bG bP bQ bC bM) {c k w : Nat} (hc : c < R 0) (hk : k < R (31 + 43 * c)) (hw : w < 5) : f_X0_zonesNumber (nI c) (nI k) (nI w) bZ = nI (R (32 + 43 * c + 5 * k + w)) := by
  have h3 := hR.1.2.1
  have h4 := (hR.2.1 c hc).2.2.2.2.2.2.2.2
  rw [f_X0_zonesNumber, f_X0_zonesStart, lit 3, lit 5, nI_mul, nI_add, nI_mul, nI_add, at_in (by omega) (by omega), ← h.2.2.2.2.2.2.1 c k w hc hk hw]
  congr 1; omega
theorem b_goodNumber (hR : RowOk R) (h : BookC R bA bB bZ bG bP bQ bC bM) {g w : Nat} (hg : g < R 1) (hw : w < 3) : f_X0_goodNumber (nI g) (nI w) bG = nI (R (133 + 4 * g + w)) := by
  have h3 := hR.1.2.2.1
  rw [f_X0_goodNumber, lit 3, nI_mul, nI_add, at_in (by omega) (by omega), ← h.2.2.2.2.2.2.2 g w hg hw]
  congr 1; omega
theorem m_at (h : RowM R mN) {i : Nat} (hi : i < 181) : mN (Int32.toNatClampNeg (nI i)) = nI (R i) := by rw [cl (by omega), h i hi]
theorem m_its (h : RowM R mN) {c w : Nat} (hc : 4 + 43 * c + w < 181) : f_X7_its (nI c) (nI w) mN = nI (R (4 + 43 * c + w)) ∧ k_X7_its (nI c) (nI w) := by
  rw [f_X7_its, k_X7_its, lit 43, lit 4, nI_mul, nI_add, nI_add]
  exact ⟨m_at h hc, vp_in_nI hc (by omega), trivial⟩
theorem m_goodOf (h : RowM R mN) {g w : Nat} (hg : 133 + 4 * g + w < 181) : f_X7_goodOf (nI g) (nI w) mN = nI (R (133 + 4 * g + w)) ∧ k_X7_goodOf (nI g) (nI w) := by
  rw [f_X7_goodOf, k_X7_goodOf, lit 4, lit 133, nI_mul, nI_add, nI_add]
  exact ⟨m_at h hg, vp_in_nI hg (by omega), trivial⟩
end BOOK
/-- the zone of a carrier after its first lines -/
def zoneR (R : Nat → Nat) (c pl dy : Nat) : Nat → Nat
  | 0 => 3
  | k + 1 => if R (32 + 43 * c + 5 * k) ≤ dy then R (33 + 43 * c + 5 * k + pl) else zoneR R c pl dy k
def zoneN (R : Nat → Nat) (c pl dy : Nat) : Nat := zoneR R c pl dy (R (31 + 43 * c))
theorem zoneR_le {R : Nat → Nat} (hR : RowOk R) {c pl dy : Nat} (hc : c < R 0) (hp : pl ≤ 3) : ∀ k : Nat, k ≤ R (31 + 43 * c) → zoneR R c pl dy k ≤ 3 := by
  intro k
  induction k with
  | zero => intro _; exact Nat.le_refl 3
  | succ k ih =>
    intro h
    rw [zoneR]
    split
    · exact (hR.2.2.2.1 c k hc (by omega)).2 pl (by omega)
    · exact ih (by omega)
section ZONE
variable {R : Nat → Nat} {bA bB bZ bG bP bQ : Nat → Int32} {bC bM : Int32} {mN : Nat → Int32}
theorem c_zoneL (hR : RowOk R) (h : BookC R bA bB bZ bG bP bQ bC bM) {c pl dy : Nat} (hc : c < R 0) (hp : pl ≤ 3) (hd : dy ≤ 99) : ∀ (n k : Nat), R (31 + 43 * c) < k + n → k ≤ R (31 + 43 * c) →
    f_X2_zoneOf_L6 (nI c) (nI pl) (nI dy) bZ bQ n (nI (zoneR R c pl dy k)) (nI k) = (nI (zoneN R c pl dy), nI (R (31 + 43 * c))) ∧ k_X2_zoneOf_L6 (nI c) (nI pl) (nI dy) bZ bQ n (nI (zoneR R c pl dy k)) (nI k) := by
  have h4 := (hR.2.1 c hc).2.2.2.2.2.2.2.2
  intro n
  induction n with
  | zero => intro k h1 h2; omega
  | succ n ih =>
    intro k h1 h2
    rw [f_X2_zoneOf_L6, k_X2_zoneOf_L6, b_zonesCount hR h hc]
    by_cases h5 : k = R (31 + 43 * c)
    · rw [if_pos (nI_le (by omega) (by omega)), if_pos (nI_le (by omega) (by omega)), zoneN, h5]
      exact ⟨rfl, trivial⟩
    · have hk : k < R (31 + 43 * c) := by omega
      have h6 := (hR.2.2.2.1 c k hc hk).1
      rw [if_neg (nI_ge hk (by omega)), if_neg (nI_ge hk (by omega)), lit 0, lit 1, nI_add 1 pl, nI_add k 1, b_zonesNumber hR h hc hk (by omega), b_zonesNumber hR h hc hk (by omega), Nat.add_zero]
      have h7 := ih (k + 1) (by omega) (by omega)
      rw [zoneR] at h7
      by_cases h8 : R (32 + 43 * c + 5 * k) ≤ dy
      · rw [if_pos h8] at h7
        rw [if_neg (nI_nlt (by omega) (by omega)), if_neg (nI_nlt (by omega) (by omega)), show 32 + 43 * c + 5 * k + (1 + pl) = 33 + 43 * c + 5 * k + pl by omega]
        exact h7
      · rw [if_neg h8] at h7
        rw [if_pos (nI_lt (by omega) (by omega)), if_pos (nI_lt (by omega) (by omega))]
        exact h7
theorem FU_big {n : Nat} (h : n < 4096) : n < FU := by rw [FU_eq]; exact h
theorem c_zone (hR : RowOk R) (h : BookC R bA bB bZ bG bP bQ bC bM) {c pl dy : Nat} (hc : c < R 0) (hp : pl ≤ 3) (hd : dy ≤ 99) : f_X2_zoneOf (nI c) (nI pl) (nI dy) bZ bQ = nI (zoneN R c pl dy) ∧ k_X2_zoneOf (nI c) (nI pl) (nI dy) bZ bQ := by
  have h4 := (hR.2.1 c hc).2.2.2.2.2.2.2.2
  obtain ⟨h1, h2⟩ := c_zoneL hR h hc hp hd FU 0 (by have := FU_big (n := R (31 + 43 * c)) (by omega); omega) (by omega)
  rw [f_X2_zoneOf, k_X2_zoneOf]
  exact ⟨congrArg Prod.fst h1, h2, trivial⟩
theorem m_zoneL (hR : RowOk R) (h : RowM R mN) {c : Nat} (hc : c < R 0) : ∀ (n k : Nat), R (31 + 43 * c) < k + n → k ≤ R (31 + 43 * c) →
    f_X7_zoneOf_L4 (nI c) mN n (nI (zoneR R c (R 2) (R 3) k)) (nI k) = (nI (zoneN R c (R 2) (R 3)), nI (R (31 + 43 * c))) ∧ k_X7_zoneOf_L4 (nI c) mN n (nI (zoneR R c (R 2) (R 3) k)) (nI k) := by
  have h3 := hR.1
  have h4 := (hR.2.1 c hc).2.2.2.2.2.2.2.2
  intro n
  induction n with
  | zero => intro k h1 h2; omega
  | succ n ih =>
    intro k h1 h2
    have e1 := m_its h (c := c) (w := 27) (by omega)
    rw [show 4 + 43 * c + 27 = 31 + 43 * c by omega] at e1
    rw [f_X7_zoneOf_L4, k_X7_zoneOf_L4, lit 27, e1.1]
    by_cases h5 : k = R (31 + 43 * c)
    · rw [if_pos (nI_le (by omega) (by omega)), if_pos (nI_le (by omega) (by omega)), zoneN, h5]
      exact ⟨rfl, e1.2, trivial⟩
    · have hk : k < R (31 + 43 * c) := by omega
      have h6 := (hR.2.2.2.1 c k hc hk).1
      have e2 := m_its h (c := c) (w := 28 + 5 * k) (by omega)
      have e3 := m_its h (c := c) (w := 28 + 5 * k + 1 + R 2) (by omega)
      rw [show 4 + 43 * c + (28 + 5 * k) = 32 + 43 * c + 5 * k by omega] at e2
      rw [show 4 + 43 * c + (28 + 5 * k + 1 + R 2) = 33 + 43 * c + 5 * k + R 2 by omega] at e3
      rw [if_neg (nI_ge hk (by omega)), if_neg (nI_ge hk (by omega)), lit 3, lit 2, lit 28, lit 5, lit 1, m_at h (i := 3) (by omega), m_at h (i := 2) (by omega)]
      simp only [nI_mul, nI_add]
      rw [e2.1, e3.1]
      have h7 := ih (k + 1) (by omega) (by omega)
      rw [zoneR] at h7
      by_cases h8 : R (32 + 43 * c + 5 * k) ≤ R 3
      · rw [if_pos h8] at h7
        rw [if_neg (nI_nlt (by omega) (by omega)), if_neg (nI_nlt (by omega) (by omega))]
        exact ⟨h7.1, e1.2, e2.2, e3.2, h7.2⟩
      · rw [if_neg h8] at h7
        rw [if_pos (nI_lt (by omega) (by omega)), if_pos (nI_lt (by omega) (by omega))]
        exact ⟨h7.1, e1.2, e2.2, h7.2⟩
theorem m_zone (hR : RowOk R) (h : RowM R mN) {c : Nat} (hc : c < R 0) : f_X7_zoneOf (nI c) mN = nI (zoneN R c (R 2) (R 3)) ∧ k_X7_zoneOf (nI c) mN := by
  have h4 := (hR.2.1 c hc).2.2.2.2.2.2.2.2
  obtain ⟨h1, h2⟩ := m_zoneL hR h hc FU 0 (by have := FU_big (n := R (31 + 43 * c)) (by omega); omega) (by omega)
  rw [f_X7_zoneOf, k_X7_zoneOf]
  exact ⟨congrArg Prod.fst h1, h2, trivial⟩
end ZONE
