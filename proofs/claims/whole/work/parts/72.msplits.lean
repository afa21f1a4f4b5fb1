/-! PURE, 23: the model's splits; books that are alike -/
def BEq (R R' : Nat → Nat) : Prop := ∀ i : Nat, i ≠ 2 → i ≠ 3 → (∀ g : Nat, g < 8 → i ≠ 136 + 4 * g) → i < 165 → R i = R' i
theorem BEq_symm {R R' : Nat → Nat} (h : BEq R R') : BEq R' R := fun i h1 h2 h3 h4 => (h i h1 h2 h3 h4).symm
theorem BEq_trans {R R' R'' : Nat → Nat} (h : BEq R R') (h' : BEq R' R'') : BEq R R'' := fun i h1 h2 h3 h4 => (h i h1 h2 h3 h4).trans (h' i h1 h2 h3 h4)
section BEQ
variable {R R' : Nat → Nat}
theorem be_0 (h : BEq R R') : R 0 = R' 0 := h 0 (by omega) (by omega) (fun g hg => by omega) (by omega)
theorem be_1 (h : BEq R R') : R 1 = R' 1 := h 1 (by omega) (by omega) (fun g hg => by omega) (by omega)
theorem be_c (h : BEq R R') {c j : Nat} (hc : c < 3) (hj : j < 43) : R (4 + 43 * c + j) = R' (4 + 43 * c + j) := h _ (by omega) (by omega) (fun g hg => by omega) (by omega)
theorem be_g (h : BEq R R') {g w : Nat} (hg : g < 8) (hw : w < 3) : R (133 + 4 * g + w) = R' (133 + 4 * g + w) := h _ (by omega) (by omega) (fun g hg => by omega) (by omega)
theorem be_i (h : BEq R R') {i : Nat} (h1 : 4 ≤ i) (h2 : i < 133) : R i = R' i := h i (by omega) (by omega) (fun g hg => by omega) (by omega)
theorem zoneR_be (hR : RowOk R) (h : BEq R R') {c pl dy : Nat} (hc : c < R 0) (hp : pl ≤ 3) : ∀ k : Nat, k ≤ R (31 + 43 * c) → zoneR R c pl dy k = zoneR R' c pl dy k := by
  have h0 := hR.1.2.1
  have h4 := (hR.2.1 c hc).2.2.2.2.2.2.2.2
  intro k
  induction k with
  | zero => intro _; rfl
  | succ k ih =>
    intro hk
    rw [zoneR, zoneR, ih (by omega), be_i h (show 4 ≤ 32 + 43 * c + 5 * k by omega) (by omega), be_i h (show 4 ≤ 33 + 43 * c + 5 * k + pl by omega) (by omega)]
theorem zoneN_be (hR : RowOk R) (h : BEq R R') {c pl dy : Nat} (hc : c < R 0) (hp : pl ≤ 3) : zoneN R c pl dy = zoneN R' c pl dy := by
  have h0 := hR.1.2.1
  rw [zoneN, zoneN, zoneR_be hR h hc hp _ (Nat.le_refl _), be_i h (show 4 ≤ 31 + 43 * c by omega) (by omega)]
theorem rateR_be (hR : RowOk R) (h : BEq R R') {c z b : Nat} (hc : c < R 0) (hz : z < 3) : ∀ k : Nat, k ≤ R (10 + 43 * c) → rateR R c z b k = rateR R' c z b k := by
  have h0 := hR.1.2.1
  have h4 := (hR.2.1 c hc).2.2.2.2.2.2.1.2
  intro k
  induction k with
  | zero => intro _; rfl
  | succ k ih =>
    intro hk
    rw [rateR, rateR, ih (by omega), be_i h (show 4 ≤ 11 + 43 * c + 4 * k by omega) (by omega), be_i h (show 4 ≤ 12 + 43 * c + 4 * k + z by omega) (by omega)]
theorem rateN_be (hR : RowOk R) (h : BEq R R') {c z b : Nat} (hc : c < R 0) (hz : z ≤ 3) : rateN R c z b = rateN R' c z b := by
  have h0 := hR.1.2.1
  rw [rateN, rateN]
  by_cases h3 : z = 3
  · rw [if_pos h3, if_pos h3]
  · rw [if_neg h3, if_neg h3, rateR_be hR h hc (by omega) _ (Nat.le_refl _), be_i h (show 4 ≤ 10 + 43 * c by omega) (by omega)]
theorem sumN_be (hR : RowOk R) (h : BEq R R') {w S : Nat} (hw : w < 3) : ∀ g : Nat, g ≤ R 1 → sumN R w S g = sumN R' w S g := by
  have h0 := hR.1.2.2.1
  intro g
  induction g with
  | zero => intro _; rfl
  | succ g ih => intro hg; rw [sumN, sumN, ih (by omega), be_g h (by omega) hw]
theorem sumS_be (hR : RowOk R) (h : BEq R R') {w S : Nat} (hw : w < 3) : sumS R w S = sumS R' w S := by
  rw [sumS, sumS, sumN_be hR h hw _ (Nat.le_refl _), be_1 h]
theorem isLong_be (hR : RowOk R) (h : BEq R R') {c g : Nat} (hc : c < R 0) (hg : g < R 1) : isLong R c g = isLong R' c g := by
  have h0 := hR.1
  have e := be_g h (g := g) (w := 2) (by omega) (by omega)
  rw [show 133 + 4 * g + 2 = 135 + 4 * g by omega] at e
  rw [isLong, isLong, e, be_i h (show 4 ≤ 8 + 43 * c by omega) (by omega)]
theorem cntN_be (hR : RowOk R) (h : BEq R R') {c S : Nat} (hc : c < R 0) : ∀ g : Nat, g ≤ R 1 → cntN R c S g = cntN R' c S g := by
  intro g
  induction g with
  | zero => intro _; rfl
  | succ g ih => intro hg; rw [cntN, cntN, ih (by omega), isLong_be hR h hc (by omega)]
theorem longN_be (hR : RowOk R) (h : BEq R R') {c : Nat} (hc : c < R 0) : ∀ g : Nat, g ≤ R 1 → longN R c g = longN R' c g := by
  intro g
  induction g with
  | zero => intro _; rfl
  | succ g ih => intro hg; rw [longN, longN, ih (by omega), isLong_be hR h hc (by omega)]
theorem chargeO_be (hR : RowOk R) (h : BEq R R') {S c z w : Nat} (hc : c < R 0) (hz : z ≤ 3) : chargeO R S c z w = chargeO R' S c z w := by
  have h0 := hR.1.2.1
  rw [chargeO, chargeO, billN, billN, sumS_be hR h (by omega), rateN_be hR h hc hz, cntN_be hR h hc _ (Nat.le_refl _), be_1 h, be_i h (show 4 ≤ 4 + 43 * c by omega) (by omega), be_i h (show 4 ≤ 5 + 43 * c by omega) (by omega), be_i h (show 4 ≤ 6 + 43 * c by omega) (by omega), be_i h (show 4 ≤ 9 + 43 * c by omega) (by omega)]
  have e : ∀ n : Nat, fuelN R c n = fuelN R' c n := by intro n; rw [fuelN, fuelN, be_i h (show 4 ≤ 7 + 43 * c by omega) (by omega)]
  simp only [e]
theorem offR_be (hR : RowOk R) (h : BEq R R') {zs : Nat → Nat} {S : Nat} : ∀ c : Nat, c ≤ R 0 → (∀ j : Nat, j < c → zs j ≤ 3) → offR R zs S c = offR R' zs S c := by
  intro c
  induction c with
  | zero => intro _ _; rfl
  | succ c ih => intro hc hz; rw [offR, offR, ih (by omega) (fun j hj => hz j (by omega)), sumS_be hR h (by omega), chargeO_be hR h (by omega) (hz c (by omega))]
theorem book_be {bA bB bZ bG bP bQ : Nat → Int32} {bC bM : Int32} (hR : RowOk R) (h : BEq R R') (hb : BookC R bA bB bZ bG bP bQ bC bM) : BookC R' bA bB bZ bG bP bQ bC bM := by
  have h0 := hR.1
  have e0 := be_0 h
  have e1 := be_1 h
  obtain ⟨b1, b2, b3, b4, b5, b6, b7, b8⟩ := hb
  have ec : ∀ i : Nat, 4 ≤ i → i < 133 → R' i = R i := fun i h1 h2 => (be_i h h1 h2).symm
  refine ⟨by rw [b1, e0], by rw [b2, e1], ?_, ?_, ?_, ?_, ?_, ?_⟩
  · intro c j hc hj; rw [b3 c j (by omega) hj, ec _ (by omega) (by omega)]
  · intro c hc; rw [b4 c (by omega), ec _ (by omega) (by omega)]
  · intro c hc; rw [b5 c (by omega), ec _ (by omega) (by omega)]
  · intro c k w hc hk hw
    rw [ec _ (by omega) (by omega)] at hk
    have := (hR.2.1 c (by omega)).2.2.2.2.2.2.1.2
    rw [b6 c k w (by omega) hk hw, ec _ (by omega) (by omega)]
  · intro c k w hc hk hw
    rw [ec _ (by omega) (by omega)] at hk
    have := (hR.2.1 c (by omega)).2.2.2.2.2.2.2.2
    rw [b7 c k w (by omega) hk hw, ec _ (by omega) (by omega)]
  · intro g w hg hw; rw [b8 g w (by omega) hw, be_g h (by omega) hw]
theorem prices_be {rK rL rG : Nat → Int32} (hR : RowOk R) (h : BEq R R') (hp : PricesC R rK rL rG) : PricesC R' rK rL rG := by
  have e0 := be_0 h
  have e1 := be_1 h
  refine ⟨fun S hS => ?_, fun c hc => ?_⟩
  · rw [← e1] at hS
    rw [(hp.1 S hS).1, (hp.1 S hS).2, sumS_be hR h (by omega), sumS_be hR h (by omega)]
    exact ⟨rfl, rfl⟩
  · rw [hp.2 c (by omega), longN_be hR h (by omega) _ (Nat.le_refl _), e1]
theorem offN_be (hR : RowOk R) (h : BEq R R') {Z : Nat} : offN R Z = offN R' Z := by
  funext S
  rw [offN, offN, offR_be hR h _ (Nat.le_refl _) (fun j _ => zIn_le Z j), be_0 h]
theorem sol_be (hR : RowOk R) (h : BEq R R') {Z : Nat} {l : Int32} {w : Int64} (hs : SolOk R Z l w) : SolOk R' Z l w := by
  rw [SolOk, ← offN_be hR h, ← be_1 h]; exact hs
theorem cache_be (hR : RowOk R) (h : BEq R R') {sZ : Nat → Int32} {sR : Nat → Int64} (hc : CacheOk R sZ sR) : CacheOk R' sZ sR :=
  fun Z hZ => (hc Z hZ).imp id (fun hs => sol_be hR h hs)
end BEQ
theorem offR_ch {R zs : Nat → Nat} {S : Nat} : ∀ c : Nat, c ≤ 3 → ∀ o : Nat, offR R zs S c = some o → o % 3 < c ∧ chargeO R S (o % 3) (zs (o % 3)) (sumS R 0 S) = some (o / 3) := by
  intro c
  induction c with
  | zero => intro _ o h; cases h
  | succ c ih =>
    intro hc o
    rw [offR]
    split
    · intro h; have := ih (by omega) o h; exact ⟨by omega, this.2⟩
    · rename_i n hn
      have r1 : (n * 3 + c) % 3 = c := by omega
      have r2 : (n * 3 + c) / 3 = n := by omega
      split
      · intro h; cases h; rw [r1, r2]; exact ⟨by omega, hn⟩
      · rename_i q hq
        split
        · intro h; cases h; have := ih (by omega) _ hq; exact ⟨by omega, this.2⟩
        · intro h; cases h; rw [r1, r2]; exact ⟨by omega, hn⟩
def offZ (R : Nat → Nat) (S : Nat) : Option Nat := offR R (fun c => zoneN R c (R 2) (R 3)) S (R 0)
theorem offZ_ok {R : Nat → Nat} (hR : RowOk R) : OffOk (offZ R) := fun _ x h => (offR_le hR (fun c hc => zoneR_le hR hc (by have := hR.1; omega) _ (Nat.le_refl _)) (R 0) (Nat.le_refl _) x h).2
section MSPLITS
variable {R : Nat → Nat} {mN : Nat → Int32}
theorem m_chargeOff (hR : RowOk R) (h : RowM R mN) {S x : Nat} (hS : S < 256) (hx : offZ R S = some x) : f_X7_chargeOf (nI S) (nI (x % 3)) (nI (sumS R 0 S)) mN = nI (x / 3) ∧ k_X7_chargeOf (nI S) (nI (x % 3)) (nI (sumS R 0 S)) mN := by
  have h0 := hR.1
  obtain ⟨h1, h2⟩ := offR_ch (R 0) (by omega) x hx
  have hk := sumS_le0 hR (S := S)
  obtain ⟨e1, e2⟩ := m_charge hR h (S := S) (c := x % 3) (w := sumS R 0 S) (by omega) h1 (by omega)
  rw [e1]
  refine ⟨?_, e2⟩
  rcases chargeI_o (R := R) (S := S) (c := x % 3) (z := zoneN R (x % 3) (R 2) (R 3)) (w := sumS R 0 S) with ⟨q, o1, o2⟩ | ⟨o1, o2⟩
  · rw [o2]; rw [o1] at h2; cases h2; rfl
  · rw [o1] at h2; cases h2
theorem m_laysL (hR : RowOk R) (h : RowM R mN) : ∀ (n s : Nat) (mC mH : Nat → Int32), 2 ^ R 1 < s + n → 1 ≤ s → s ≤ 2 ^ R 1 → (∀ T : Nat, 1 ≤ T → T < s → mC T = offB (offZ R T) ∧ mH T = nI (chN (offZ R) T)) →
    k_X7_laysCharges_L2 mN n (nI s) mC mH ∧ OffM (offZ R) (R 1) (f_X7_laysCharges_L2 mN n (nI s) mC mH).2.1 (f_X7_laysCharges_L2 mN n (nI s) mC mH).2.2 := by
  have h0 := hR.1
  have h4 : 2 ^ R 1 ≤ 2 ^ 8 := Nat.pow_le_pow_right (by omega) h0.2.2.1
  intro n
  induction n with
  | zero => intro s mC mH h1 h2 h3; omega
  | succ n ih =>
    intro s mC mH h1 h2 h5 hs
    rw [f_X7_laysCharges_L2, k_X7_laysCharges_L2, lit 31, lit 1, m_at h (i := 1) (by omega), nI_and, and31 (by omega), nI_shl (by omega), Nat.one_shiftLeft]
    by_cases h6 : s = 2 ^ R 1
    · have g6 : nI (2 ^ R 1) ≤ nI s := nI_le (by omega) (by omega)
      rw [if_pos g6, if_pos g6]
      exact ⟨trivial, fun T t1 t2 => hs T t1 (by omega)⟩
    · have g6 : ¬ nI (2 ^ R 1) ≤ nI s := nI_ge (by omega) (by omega)
      have v : vp_in (nI s) 256 := vp_in_nI (by omega) (by omega)
      obtain ⟨c1, c2⟩ := m_cheap hR h (S := s) (by omega)
      obtain ⟨s1, s2⟩ := m_sum hR h (S := s) (w := 0) (by omega) (by omega)
      have c1' : f_X7_cheapestOf (nI s) mN = offB (offZ R s) := c1
      have u : upd mC s (offB (offZ R s)) s = offB (offZ R s) := if_pos rfl
      rw [if_neg g6, if_neg g6, cl (show s < 2 ^ 31 by omega), c1', u, neg2, lit 0, s1, nI_add, lit 1000000]
      cases hx : offZ R s with
      | none =>
        rw [show offB none = M2 from rfl, if_pos rfl, if_pos rfl]
        obtain ⟨r1, r2⟩ := ih (s + 1) (upd mC s M2) (upd mH s (nI 1000000)) (by omega) (by omega) (by omega) (by
          intro T t1 t2
          by_cases t3 : T = s
          · subst t3
            rw [show upd mC T M2 T = M2 from if_pos rfl, show upd mH T (nI 1000000) T = nI 1000000 from if_pos rfl, chN, if_neg (by omega), hx]
            exact ⟨rfl, rfl⟩
          · rw [show upd mC s M2 T = mC T from if_neg t3, show upd mH s (nI 1000000) T = mH T from if_neg t3]
            exact hs T t1 (by omega))
        exact ⟨⟨c2, v, v, v, r1⟩, r2⟩
      | some x =>
        have hx9 := offZ_ok hR s x hx
        have g7 : ¬ nI (x % 3) = M2 := nI_ne_neg M2_neg (by omega)
        obtain ⟨q1, q2⟩ := m_chargeOff hR h (S := s) (by omega) hx
        rw [show offB (some x) = nI (x % 3) from rfl, if_neg g7, if_neg g7, q1]
        obtain ⟨r1, r2⟩ := ih (s + 1) (upd mC s (nI (x % 3))) (upd mH s (nI (x / 3))) (by omega) (by omega) (by omega) (by
          intro T t1 t2
          by_cases t3 : T = s
          · subst t3
            rw [show upd mC T (nI (x % 3)) T = nI (x % 3) from if_pos rfl, show upd mH T (nI (x / 3)) T = nI (x / 3) from if_pos rfl, chN, if_neg (by omega), hx]
            exact ⟨rfl, rfl⟩
          · rw [show upd mC s (nI (x % 3)) T = mC T from if_neg t3, show upd mH s (nI (x / 3)) T = mH T from if_neg t3]
            exact hs T t1 (by omega))
        exact ⟨⟨c2, v, v, v, s2, q2, v, r1⟩, r2⟩
theorem m_zeroL : ∀ (n k : Nat) (mB mX : Nat → Int32), 8 < k + n → k ≤ 8 → (∀ q : Nat, q < k → mX q = nI 0) →
    k_X7_splits_L6 n (nI k) mB mX ∧ ∀ q : Nat, q < 8 → (f_X7_splits_L6 n (nI k) mB mX).2.2 q = nI 0 := by
  intro n
  induction n with
  | zero => intro k mB mX h1 h2; omega
  | succ n ih =>
    intro k mB mX h1 h2 hs
    rw [f_X7_splits_L6, k_X7_splits_L6, lit 8, lit 1, lit 0]
    by_cases h6 : k = 8
    · have g6 : nI 8 ≤ nI k := nI_le (by omega) (by omega)
      rw [if_pos g6, if_pos g6]
      exact ⟨trivial, fun q hq => hs q (by omega)⟩
    · have g6 : ¬ nI 8 ≤ nI k := nI_ge (by omega) (by omega)
      have v : vp_in (nI k) 8 := vp_in_nI (by omega) (by omega)
      rw [if_neg g6, if_neg g6, cl (show k < 2 ^ 31 by omega), nI_add]
      obtain ⟨r1, r2⟩ := ih (k + 1) (upd mB k 1000000) (upd mX k (nI 0)) (by omega) (by omega) (by
        intro q hq
        show (if q = k then nI 0 else mX q) = nI 0
        by_cases h7 : q = k
        · rw [if_pos h7]
        · rw [if_neg h7]; exact hs q (by omega))
      exact ⟨⟨v, v, r1⟩, r2⟩
def dgt (w k : Nat) : Nat := w / 32 ^ (7 - k) % 32
theorem dgt_val {a : Nat → Nat} : ∀ n k : Nat, k < n → (∀ j : Nat, j < n → a j < 32) → valN a n / 32 ^ (n - 1 - k) % 32 = a k := by
  intro n
  induction n with
  | zero => intro k h; omega
  | succ n ih =>
    intro k hk ha
    rw [valN]
    have h1 := ha n (by omega)
    rcases Nat.lt_or_ge k n with h2 | h2
    · have e : n + 1 - 1 - k = (n - 1 - k) + 1 := by omega
      rw [e, Nat.pow_succ, Nat.mul_comm (32 ^ (n - 1 - k)) 32, ← Nat.div_div_eq_div_mul, show (32 * valN a n + a n) / 32 = valN a n by omega]
      exact ih k h2 (fun j hj => ha j (by omega))
    · have e : k = n := by omega
      subst e
      rw [show k + 1 - 1 - k = 0 by omega, Nat.pow_zero, Nat.div_one]
      omega
theorem dgt_dig {o : Nat → Option Nat} {S : Nat} {r : Nat → Nat} (h : RG S r) {k : Nat} (hk : k < 8) : dgt (valN (digN o S r) 8) k = digN o S r k := dgt_val 8 k hk (fun j hj => digN_lt h hj)
theorem best_uniq {o : Nat → Option Nat} {S : Nat} {x x' : Option (Nat × Nat)} (h : BestS o S x) (h' : BestS o S x') : x = x' := by
  cases x with
  | none =>
    cases x' with
    | none => rfl
    | some y => obtain ⟨h1, ⟨r, h2, h3, _⟩, _⟩ := h'; have := h r h2; omega
  | some y =>
    cases x' with
    | none => obtain ⟨h1, ⟨r, h2, h3, _⟩, _⟩ := h; have := h' r h2; omega
    | some y' =>
      obtain ⟨h1, ⟨r, h2, h3, h4⟩, h5⟩ := h
      obtain ⟨h1', ⟨r', h2', h3', h4'⟩, h5'⟩ := h'
      have a := h5 r' h2' (by omega)
      have b := h5' r h2 (by omega)
      rw [h3', h4'] at a
      rw [h3, h4] at b
      have : y.1 = y'.1 ∧ y.2 = y'.2 := by
        rcases a with a | ⟨a1, a2⟩ <;> rcases b with b | ⟨b1, b2⟩ <;> omega
      rw [Option.some.injEq]
      exact Prod.ext this.1 this.2
theorem m_splits (hR : RowOk R) (h : RowM R mN) (mC mH mW mB mX : Nat → Int32) : k_X7_splits mN mC mH mW mB mX ∧ ∃ x : Option (Nat × Nat), BestS (offZ R) (fl (R 1)) x ∧
    (x = none → (f_X7_splits mN mC mH mW mB mX).1 = M2) ∧ ∀ y : Nat × Nat, x = some y → (f_X7_splits mN mC mH mW mB mX).1 = nI y.1 ∧ ∀ k : Nat, k < R 1 → (f_X7_splits mN mC mH mW mB mX).2.2.2.2.1 k = nI (dgt y.2 k) := by
  have h0 := hR.1
  have h4 : 2 ^ R 1 ≤ 2 ^ 8 := Nat.pow_le_pow_right (by omega) h0.2.2.1
  have u3 : 1 ≤ 2 ^ R 1 := Nat.one_le_two_pow
  have hN : mN 1 = nI (R 1) := h 1 (by omega)
  obtain ⟨a1, a2⟩ := m_laysL hR h FU 1 mC mH (by have := FU_big (n := 2 ^ R 1) (by omega); omega) (by omega) (by omega) (fun T t1 t2 => by omega)
  obtain ⟨b1, b2⟩ := m_zeroL FU 0 mB mX (by have := FU_big (n := 8) (by omega); omega) (by omega) (fun q hq => by omega)
  have hS : StM 0 (fun _ => 0) mW (f_X7_splits_L6 FU (nI 0) mB mX).2.2 := by
    refine ⟨fun h hh => by omega, fun q hq => ?_⟩
    rw [b2 q hq]
    have : setOf (fl 0) (fun _ => 0) q = 0 := by
      have := set_fl (m := 0) (r := fun _ => 0) q
      omega
    rw [this]
  have hP : PreR 0 0 (fun _ => 0) := ⟨fun g hg => by rw [fl_tb] at hg; omega, fun h hh => by omega, fun q hq => by omega⟩
  have l1 : f_X7_laysCharges mN mC mH = ((f_X7_laysCharges_L2 mN FU (nI 1) mC mH).2.1, (f_X7_laysCharges_L2 mN FU (nI 1) mC mH).2.2) := rfl
  obtain ⟨t1, mW', mB', mX', mE', t2, _, _, x, t3, t4⟩ := m_tries (mN := mN) (offZ_ok hR) h0.2.2.1 hN a2 10 0 (fun _ => 0) 0 mW (f_X7_splits_L6 FU (nI 0) mB mX).2.1 (f_X7_splits_L6 FU (nI 0) mB mX).2.2 (nI 1000000) none (fun _ => False) (by omega) (by omega) hP hS rfl (fun _ h => h.elim)
  have hbest : BestS (offZ R) (fl (R 1)) x := by
    cases x with
    | none =>
      intro r hr
      have := t4 r (Or.inr ⟨hr, fun h hh => by omega⟩)
      rw [candR] at this
      split at this
      · cases this
      · omega
    | some y =>
      obtain ⟨⟨r, q1, q2⟩, q3⟩ := t4
      have hr : RG (fl (R 1)) r := (q1.resolve_left id).1
      rw [candR] at q2
      split at q2
      · rename_i q4
        cases q2
        refine ⟨q4, ⟨r, hr, rfl, rfl⟩, fun r' hr' q5 => ?_⟩
        exact q3 r' _ (Or.inr ⟨hr', fun h hh => by omega⟩) (by rw [candR, if_pos q5])
      · cases q2
  have hf : f_X7_splits mN mC mH mW mB mX = f_X7_splits_L45 mN mC mH mW' mB' mX' mE' := by
    rw [f_X7_splits, f_X7_triesT, l1, lit 0, lit 1000000, t2]
  refine ⟨⟨⟨a1, trivial⟩, b1, t1, trivial⟩, x, hbest, ?_, ?_⟩
  · intro e
    rw [e] at t3
    have e3 : mE' = nI 1000000 := t3
    rw [hf, f_X7_splits_L45, e3, lit 1000000, if_pos rfl]; rfl
  · intro y e
    rw [e] at t3
    obtain ⟨e1, e2, r, e3, e4, e5, e6⟩ := t3
    have g : ¬ nI y.1 = nI 1000000 := fun e => by have := (nI_eq (by omega) (by omega)).mp e; omega
    rw [hf, f_X7_splits_L45, e1, lit 1000000, if_neg g]
    refine ⟨rfl, fun k hk => ?_⟩
    rw [← e5, dgt_dig e3 (by omega)]
    exact e6 k hk
end MSPLITS
