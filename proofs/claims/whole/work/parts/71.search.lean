/-! PURE, 22: the model's search as a whole -/
theorem set_add {g p : Nat} {r : Nat → Nat} (hg : g < 8) (q : Nat) : setOf (fl (g + 1)) (fun h => if h = g then p else r h) q = if q = p then setOf (fl g) r q ||| 1 <<< g else setOf (fl g) r q := by
  apply Nat.eq_of_testBit_eq
  intro i
  rw [Bool.eq_iff_iff, setOf_tb, fl_tb]
  by_cases h1 : q = p
  · rw [if_pos h1, Nat.testBit_or, Bool.or_eq_true, setOf_tb, fl_tb, Nat.one_shiftLeft, Nat.testBit_two_pow, decide_eq_true_eq]
    constructor
    · rintro ⟨a1, a2, a3⟩
      by_cases a4 : i = g
      · exact Or.inr a4.symm
      · have a5 : (if i = g then p else r i) = q := a3
        rw [if_neg a4] at a5
        exact Or.inl ⟨a1, by omega, a5⟩
    · rintro (⟨a1, a2, a3⟩ | a1)
      · refine ⟨a1, by omega, ?_⟩
        show (if i = g then p else r i) = q
        rw [if_neg (by omega)]; exact a3
      · subst a1
        refine ⟨hg, by omega, ?_⟩
        show (if g = g then p else r g) = q
        rw [if_pos rfl]; exact h1.symm
  · rw [if_neg h1, setOf_tb, fl_tb]
    constructor
    · rintro ⟨a1, a2, a3⟩
      have a5 : (if i = g then p else r i) = q := a3
      by_cases a4 : i = g
      · rw [if_pos a4] at a5; omega
      · rw [if_neg a4] at a5
        exact ⟨a1, by omega, a5⟩
    · rintro ⟨a1, a2, a3⟩
      refine ⟨a1, by omega, ?_⟩
      show (if i = g then p else r i) = q
      rw [if_neg (by omega)]; exact a3
theorem set_back {g p : Nat} {r : Nat → Nat} : (setOf (fl g) r p ||| 1 <<< g) ^^^ 1 <<< g = setOf (fl g) r p := by
  apply Nat.eq_of_testBit_eq
  intro i
  rw [Nat.testBit_xor, Nat.testBit_or, Nat.one_shiftLeft, Nat.testBit_two_pow]
  by_cases h : g = i
  · subst h
    have : (setOf (fl g) r p).testBit g = false := by
      cases h5 : (setOf (fl g) r p).testBit g with
      | false => rfl
      | true => rw [setOf_tb, fl_tb] at h5; omega
    rw [this]; simp
  · simp [h]
theorem pre_add {g k p : Nat} {r : Nat → Nat} (h : PreR g k r) (hp : p ≤ k) : PreR (g + 1) (if p = k then k + 1 else k) (fun h => if h = g then p else r h) := by
  obtain ⟨h1, h2, h3⟩ := h
  refine ⟨?_, ?_, ?_⟩
  · intro j hj q hq
    rw [fl_tb] at hj
    have hq' : q < (if j = g then p else r j) := hq
    by_cases h4 : j = g
    · rw [if_pos h4] at hq'
      obtain ⟨i, i1, i2⟩ := h3 q (by omega)
      refine ⟨i, by omega, fl_tb.mpr (by omega), ?_⟩
      show (if i = g then p else r i) = q
      rw [if_neg (by omega)]; exact i2
    · rw [if_neg h4] at hq'
      obtain ⟨i, i1, i2, i3⟩ := h1 j (fl_tb.mpr (by omega)) q hq'
      refine ⟨i, i1, fl_tb.mpr (by omega), ?_⟩
      show (if i = g then p else r i) = q
      rw [if_neg (by omega)]; exact i3
  · intro j hj
    show (if j = g then p else r j) < _
    by_cases h4 : j = g
    · rw [if_pos h4]; split <;> omega
    · rw [if_neg h4]
      have := h2 j (by omega)
      split <;> omega
  · intro q hq
    by_cases h5 : q < k
    · obtain ⟨i, i1, i2⟩ := h3 q h5
      refine ⟨i, by omega, ?_⟩
      show (if i = g then p else r i) = q
      rw [if_neg (by omega)]; exact i2
    · refine ⟨g, by omega, ?_⟩
      show (if g = g then p else r g) = q
      rw [if_pos rfl]
      split at hq <;> omega
section SEARCH
variable {o : Nat → Option Nat} {m : Nat} {mN mC mH : Nat → Int32}
theorem m_leaf {k : Nat} {r : Nat → Nat} {mW mX mB : Nat → Int32} {mE : Int32} {x : Option (Nat × Nat)} (hO : OffOk o) (hm : m ≤ 8) (hN : mN 1 = nI m) (hF : OffM o m mC mH) (hP : PreR m k r) (hS : StM m r mW mX) (hB : MBest o m mB mE x)
    (F_ : Int32 → Int32 → (Nat → Int32) → (Nat → Int32) → (Nat → Int32) → (Nat → Int32) → (Nat → Int32) → (Nat → Int32) → Int32 → (Nat → Int32) × (Nat → Int32) × (Nat → Int32) × Int32) (K_ : Int32 → Int32 → (Nat → Int32) → (Nat → Int32) → (Nat → Int32) → (Nat → Int32) → (Nat → Int32) → (Nat → Int32) → Int32 → Prop) :
    k_X7_triesS F_ K_ (nI m) (nI k) mN mC mH mW mB mX mE ∧ ∃ (mB' : Nat → Int32) (mE' : Int32), f_X7_triesS F_ (nI m) (nI k) mN mC mH mW mB mX mE = (mW, mB', mX, mE') ∧ MBest o m mB' mE' (mixC x (candR o m r)) := by
  have hk := pre_le hP
  obtain ⟨l1, l2⟩ := m_costL hO hm hP hS hF FU 0 (by have := FU_big (n := k) (by omega); omega) (by omega)
  have l1' : f_X7_triesS_L85 (nI k) mH mX FU (nI 0) (nI 0) = (nI (costR o (fl m) r k), nI k) := l1
  have l2' : k_X7_triesS_L85 (nI k) mH mX FU (nI 0) (nI 0) := l2
  have e8 := cost_k (o := o) hP 8 (by omega)
  have hmax := cost_max hO (S := fl m) (r := r) 8
  have g0 : nI m ≤ nI m := nI_le (by omega) (by omega)
  rw [f_X7_triesS, k_X7_triesS, lit 1, cl (show 1 < 2 ^ 31 by omega), hN, if_pos g0, if_pos g0, lit 0, show (f_X7_triesS_L85 (nI k) mH mX FU (nI 0) (nI 0)).1 = nI (costR o (fl m) r k) from congrArg Prod.fst l1', lit 1000000, candR, ← e8]
  generalize hn : costR o (fl m) r 8 = n at hmax ⊢
  by_cases h1 : 1000000 ≤ n
  · have g1 : nI 1000000 ≤ nI n := nI_le h1 (by omega)
    rw [if_pos g1, if_pos g1, if_neg (show ¬ n < 1000000 by omega)]
    exact ⟨⟨l2', trivial⟩, mB, mE, rfl, hB⟩
  · have g1 : ¬ nI 1000000 ≤ nI n := nI_ge (by omega) (by omega)
    have hc : costR o (fl m) r 8 < 1000000 := by omega
    obtain ⟨b1, b2, b3⟩ := m_bestL hO hm hN hP hS hF hc (nI n) FU 0 mB (by have := FU_big (n := m) (by omega); omega) (by omega) (fun j hj => by omega)
    have hnew : MBest o m (f_X7_triesS_L150 mN mC mW mX FU (nI 0) mB (nI n)).2.1 (f_X7_triesS_L150 mN mC mW mX FU (nI 0) mB (nI n)).2.2 (some (n, valN (digN o (fl m) r) 8)) := ⟨b1, by show n < 1000000; omega, r, hP.1, hn, rfl, b2⟩
    rw [if_neg g1, if_neg g1, if_pos (show n < 1000000 by omega)]
    cases x with
    | none =>
      have e : mE = nI 1000000 := hB
      have g2 : ¬ nI 1000000 < nI n := nI_nlt (by omega) (by omega)
      have g3 : ¬ nI n = nI 1000000 := fun e => by have := (nI_eq (by omega) (by omega)).mp e; omega
      rw [e, if_neg g2, if_neg g2, if_neg g3, if_neg g3]
      exact ⟨⟨l2', b3, trivial⟩, _, _, rfl, hnew⟩
    | some z =>
      obtain ⟨e, z1, r0, z2, z3, z4, z5⟩ := hB
      rw [e]
      by_cases h2 : z.1 < n
      · have g2 : nI z.1 < nI n := nI_lt h2 (by omega)
        rw [if_pos g2, if_pos g2, show mixC (some z) (some (n, valN (digN o (fl m) r) 8)) = some z from if_neg (by rintro (h | ⟨h, _⟩) <;> exact absurd h (by show ¬ _; first | exact Nat.not_lt.mpr (Nat.le_of_lt h2) | exact fun e => absurd (show n = z.1 from e) (by omega)))]
        exact ⟨⟨l2', trivial⟩, mB, _, rfl, rfl, z1, r0, z2, z3, z4, z5⟩
      · have g2 : ¬ nI z.1 < nI n := nI_nlt (by omega) (by omega)
        rw [if_neg g2, if_neg g2]
        by_cases h3 : n = z.1
        · have g3 : nI n = nI z.1 := by rw [h3]
          obtain ⟨i1, i2⟩ := m_lessL hO hm hN hP hS hF hc z2 z5 FU 0 (by have := FU_big (n := m) (by omega); omega) (by omega) (fun j hj => by omega)
          rw [if_pos g3, if_pos g3]
          have i1' : f_X7_isLess mN mC mW mB mX = _ := i1
          rw [i1', z4]
          by_cases h4 : valN (digN o (fl m) r) 8 < z.2
          · rw [if_pos h4, if_neg (by decide), if_neg (by decide), show mixC (some z) (some (n, valN (digN o (fl m) r) 8)) = some (n, valN (digN o (fl m) r) 8) from if_pos (Or.inr ⟨h3, h4⟩)]
            exact ⟨⟨l2', i2, b3, trivial⟩, _, _, rfl, hnew⟩
          · rw [if_neg h4, if_pos (show (0 : Int32) = nI 0 from rfl), if_pos (show (0 : Int32) = nI 0 from rfl), show mixC (some z) (some (n, valN (digN o (fl m) r) 8)) = some z from if_neg (by rintro (h | ⟨_, h⟩); exact absurd (show n < z.1 from h) (by omega); exact h4 h)]
            exact ⟨⟨l2', i2, trivial⟩, mB, _, rfl, rfl, z1, r0, z2, z3, z4, z5⟩
        · have g3 : ¬ nI n = nI z.1 := fun e => h3 ((nI_eq (by omega) (by omega)).mp e)
          rw [if_neg g3, if_neg g3, show mixC (some z) (some (n, valN (digN o (fl m) r) 8)) = some (n, valN (digN o (fl m) r) 8) from if_pos (Or.inl (show n < z.1 by omega))]
          exact ⟨⟨l2', b3, trivial⟩, _, _, rfl, hnew⟩
theorem m_nodeL {g k : Nat} {r : Nat → Nat} {Q : (Nat → Nat) → Prop} (hg : g < m) (hm : m ≤ 8) (hP : PreR g k r)
    (F_ : Int32 → Int32 → (Nat → Int32) → (Nat → Int32) → (Nat → Int32) → (Nat → Int32) → (Nat → Int32) → (Nat → Int32) → Int32 → (Nat → Int32) × (Nat → Int32) × (Nat → Int32) × Int32) (K_ : Int32 → Int32 → (Nat → Int32) → (Nat → Int32) → (Nat → Int32) → (Nat → Int32) → (Nat → Int32) → (Nat → Int32) → Int32 → Prop)
    (hI : ∀ (r : Nat → Nat) (k : Nat) (mW mB mX : Nat → Int32) (mE : Int32) (x : Option (Nat × Nat)) (Q : (Nat → Nat) → Prop), PreR (g + 1) k r → StM (g + 1) r mW mX → MBest o m mB mE x → BestC (candR o m) Q x →
      K_ (nI (g + 1)) (nI k) mN mC mH mW mB mX mE ∧ ∃ (mW' mB' mX' : Nat → Int32) (mE' : Int32), F_ (nI (g + 1)) (nI k) mN mC mH mW mB mX mE = (mW', mB', mX', mE') ∧ (∀ h : Nat, h < g + 1 → mW' h = mW h) ∧ (∀ q : Nat, q < 8 → mX' q = mX q) ∧ ∃ x' : Option (Nat × Nat), MBest o m mB' mE' x' ∧ BestC (candR o m) (fun r' => Q r' ∨ (RG (fl m) r' ∧ ∀ h : Nat, h < g + 1 → r' h = r h)) x') :
    ∀ (n p : Nat) (mW mB mX : Nat → Int32) (mE : Int32) (x : Option (Nat × Nat)), k + 1 < p + n → p ≤ k + 1 → StM g r mW mX → MBest o m mB mE x → BestC (candR o m) (fun r' => Q r' ∨ (RG (fl m) r' ∧ (∀ h : Nat, h < g → r' h = r h) ∧ r' g < p)) x →
      k_X7_triesS_L12 F_ K_ (nI g) (nI k) mN mC mH n (nI p) mW mB mX mE ∧ ∃ (v : Int32) (mW' mB' mX' : Nat → Int32) (mE' : Int32), f_X7_triesS_L12 F_ (nI g) (nI k) mN mC mH n (nI p) mW mB mX mE = (v, mW', mB', mX', mE') ∧ (∀ h : Nat, h < g → mW' h = mW h) ∧ (∀ q : Nat, q < 8 → mX' q = mX q) ∧ ∃ x' : Option (Nat × Nat), MBest o m mB' mE' x' ∧ BestC (candR o m) (fun r' => Q r' ∨ (RG (fl m) r' ∧ (∀ h : Nat, h < g → r' h = r h) ∧ r' g < k + 1)) x' := by
  have hk := pre_le hP
  intro n
  induction n with
  | zero => intro p mW mB mX mE x h1 h2; omega
  | succ n ih =>
    intro p mW mB mX mE x h1 h2 hS hB hC
    rw [f_X7_triesS_L12, k_X7_triesS_L12]
    by_cases h5 : p = k + 1
    · have g5 : nI k < nI p := nI_lt (by omega) (by omega)
      rw [if_pos g5, if_pos g5]
      subst h5
      exact ⟨trivial, _, mW, mB, mX, mE, rfl, fun _ _ => rfl, fun _ _ => rfl, x, hB, hC⟩
    · have g5 : ¬ nI k < nI p := nI_nlt (by omega) (by omega)
      have g6 : ¬ nI 8 ≤ nI p := nI_ge (by omega) (by omega)
      have vp : vp_in (nI p) 8 := vp_in_nI (by omega) (by omega)
      have vg : vp_in (nI g) 8 := vp_in_nI (by omega) (by omega)
      rw [if_neg g5, if_neg g5, lit 8, if_neg g6, if_neg g6, lit 31, lit 1, nI_and, and31 (show g < 32 by omega), nI_shl (show g < 32 by omega), cl (show p < 2 ^ 31 by omega), cl (show g < 2 ^ 31 by omega), hS.2 p (by omega), nI_or, nI_add, nI_add, nI_add]
      have hS' : StM (g + 1) (fun h => if h = g then p else r h) (upd mW g (nI p)) (upd mX p (nI (setOf (fl g) r p ||| 1 <<< g))) := by
        refine ⟨fun h hh => ?_, fun q hq => ?_⟩
        · show (if h = g then nI p else mW h) = nI (if h = g then p else r h)
          by_cases h6 : h = g
          · rw [if_pos h6, if_pos h6]
          · rw [if_neg h6, if_neg h6]; exact hS.1 h (by omega)
        · rw [set_add (by omega)]
          show (if q = p then nI (setOf (fl g) r p ||| 1 <<< g) else mX q) = _
          by_cases h6 : q = p
          · subst h6; rw [if_pos rfl, if_pos rfl]
          · rw [if_neg h6, if_neg h6]; exact hS.2 q hq
      obtain ⟨k1, mW', mB', mX', mE', f1, f2, f3, x', f4, f5⟩ := hI _ _ _ mB _ mE x _ (pre_add hP (show p ≤ k by omega)) hS' hB hC
      have hX : ∀ q : Nat, q < 8 → upd mX' p (mX' p ^^^ nI (1 <<< g)) q = mX q := by
        intro q hq
        show (if q = p then mX' p ^^^ nI (1 <<< g) else mX' q) = mX q
        by_cases h6 : q = p
        · subst h6
          rw [if_pos rfl, f3 q hq, show upd mX q (nI (setOf (fl g) r q ||| 1 <<< g)) q = nI (setOf (fl g) r q ||| 1 <<< g) from if_pos rfl, nI_xor, set_back, hS.2 q hq]
        · rw [if_neg h6, f3 q hq]; exact if_neg h6
      have hW : ∀ h : Nat, h < g → mW' h = mW h := by
        intro h hh
        rw [f2 h (by omega)]
        exact if_neg (by omega)
      have hS2 : StM g r mW' (upd mX' p (mX' p ^^^ nI (1 <<< g))) := ⟨fun h hh => by rw [hW h hh]; exact hS.1 h hh, fun q hq => by rw [hX q hq]; exact hS.2 q hq⟩
      have hC2 : BestC (candR o m) (fun r' => Q r' ∨ (RG (fl m) r' ∧ (∀ h : Nat, h < g → r' h = r h) ∧ r' g < p + 1)) x' := by
        refine BestC_congr (fun r' => ?_) (fun _ _ => rfl) f5
        constructor
        · rintro ((a | ⟨a1, a2, a3⟩) | ⟨a1, a2⟩)
          · exact Or.inl a
          · exact Or.inr ⟨a1, a2, by omega⟩
          · refine Or.inr ⟨a1, fun h hh => ?_, ?_⟩
            · have a3 := a2 h (by omega)
              have a4 : r' h = (if h = g then p else r h) := a3
              rw [if_neg (by omega)] at a4; exact a4
            · have a3 := a2 g (by omega)
              have a4 : r' g = (if g = g then p else r g) := a3
              rw [if_pos rfl] at a4; omega
        · rintro (a | ⟨a1, a2, a3⟩)
          · exact Or.inl (Or.inl a)
          · rcases Nat.lt_or_ge (r' g) p with a4 | a4
            · exact Or.inl (Or.inr ⟨a1, a2, a4⟩)
            · refine Or.inr ⟨a1, fun h hh => ?_⟩
              show r' h = (if h = g then p else r h)
              by_cases a5 : h = g
              · rw [if_pos a5, a5]; omega
              · rw [if_neg a5]; exact a2 h (by omega)
      obtain ⟨q1, v, mW2, mB2, mX2, mE2, q2, q3, q4, x2, q5, q6⟩ := ih (p + 1) mW' mB' (upd mX' p (mX' p ^^^ nI (1 <<< g))) mE' x' (by omega) (by omega) hS2 f4 hC2
      by_cases h6 : p = k
      · have g7 : nI p = nI k := by rw [h6]
        rw [if_pos h6] at f1 k1
        rw [if_pos g7, if_pos g7, f1]
        refine ⟨⟨vp, vp, vg, k1, vp, vp, q1⟩, v, mW2, mB2, mX2, mE2, q2, fun h hh => ?_, fun q hq => ?_, x2, q5, q6⟩
        · rw [q3 h hh]; exact hW h hh
        · rw [q4 q hq]; exact hX q hq
      · have g7 : ¬ nI p = nI k := fun e => h6 ((nI_eq (by omega) (by omega)).mp e)
        rw [if_neg h6] at f1 k1
        rw [if_neg g7, if_neg g7, f1]
        refine ⟨⟨vp, vp, vg, k1, vp, vp, q1⟩, v, mW2, mB2, mX2, mE2, q2, fun h hh => ?_, fun q hq => ?_, x2, q5, q6⟩
        · rw [q3 h hh]; exact hW h hh
        · rw [q4 q hq]; exact hX q hq
theorem m_tries (hO : OffOk o) (hm : m ≤ 8) (hN : mN 1 = nI m) (hF : OffM o m mC mH) : ∀ (d g : Nat) (r : Nat → Nat) (k : Nat) (mW mB mX : Nat → Int32) (mE : Int32) (x : Option (Nat × Nat)) (Q : (Nat → Nat) → Prop), m < g + d → g ≤ m → PreR g k r → StM g r mW mX → MBest o m mB mE x → BestC (candR o m) Q x →
      k_X7_tries d (nI g) (nI k) mN mC mH mW mB mX mE ∧ ∃ (mW' mB' mX' : Nat → Int32) (mE' : Int32), f_X7_tries d (nI g) (nI k) mN mC mH mW mB mX mE = (mW', mB', mX', mE') ∧ (∀ h : Nat, h < g → mW' h = mW h) ∧ (∀ q : Nat, q < 8 → mX' q = mX q) ∧ ∃ x' : Option (Nat × Nat), MBest o m mB' mE' x' ∧ BestC (candR o m) (fun r' => Q r' ∨ (RG (fl m) r' ∧ ∀ h : Nat, h < g → r' h = r h)) x' := by
  intro d
  induction d with
  | zero => intro g r k mW mB mX mE x Q h1 h2; omega
  | succ d ih =>
    intro g r k mW mB mX mE x Q h1 h2 hP hS hB hC
    rw [f_X7_tries, k_X7_tries]
    by_cases h3 : g = m
    · subst h3
      obtain ⟨k1, mB', mE', f1, f2⟩ := m_leaf hO hm hN hF hP hS hB (f_X7_tries d) (k_X7_tries d)
      refine ⟨k1, mW, mB', mX, mE', f1, fun _ _ => rfl, fun _ _ => rfl, _, f2, ?_⟩
      exact mix_bestE r ⟨hP.1, fun _ _ => rfl⟩ (fun r' hr' => candR_congr hr'.2) hC
    · have hg : g < m := by omega
      have g3 : ¬ nI m ≤ nI g := nI_ge hg (by omega)
      have hk := pre_le hP
      obtain ⟨k1, v, mW', mB', mX', mE', f1, f2, f3, x', f4, f5⟩ := m_nodeL (o := o) (mN := mN) (mC := mC) (mH := mH) (Q := Q) hg hm hP (f_X7_tries d) (k_X7_tries d) (fun r k mW mB mX mE x Q => ih (g + 1) r k mW mB mX mE x Q (by omega) (by omega)) FU 0 mW mB mX mE x (by have := FU_big (n := k + 1) (by omega); omega) (by omega) hS hB (BestC_congr (fun r' => ⟨Or.inl, fun h => h.elim id (fun h => by omega)⟩) (fun _ _ => rfl) hC)
      rw [f_X7_triesS, k_X7_triesS, lit 1, cl (show 1 < 2 ^ 31 by omega), hN, if_neg g3, if_neg g3, lit 0, f1]
      refine ⟨⟨k1, trivial⟩, mW', mB', mX', mE', rfl, f2, f3, x', f4, BestC_congr (fun r' => ?_) (fun _ _ => rfl) f5⟩
      constructor
      · rintro (a | ⟨a1, a2, a3⟩)
        · exact Or.inl a
        · exact Or.inr ⟨a1, a2⟩
      · rintro (a | ⟨a1, a2⟩)
        · exact Or.inl a
        · refine Or.inr ⟨a1, a2, ?_⟩
          rcases Nat.lt_or_ge k (r' g) with h5 | h5
          · obtain ⟨j, j1, j2, j3⟩ := a1 g (fl_tb.mpr hg) k h5
            have := hP.2.1 j j1
            have := a2 j j1
            omega
          · omega
end SEARCH
