/-! PURE, 43: the model's carriers against the class's runs -/
def RunX (t : Nat) (tB : Nat → Int32) (a nc : Nat) (V : Nat → Nat) (e L : Nat) (O : RdT → Prop) : Prop := ∃ K : Nat, K + L ≤ 400 ∧ Runs t tB K a nc V e L O
def SOk (t a nc : Nat) (V : Nat → Nat) (e L : Nat) : Prop := VOk nc V ∧ e ≤ t ∧ 2 * L ≤ e ∧ (a < 3 → 1 ≤ nc) ∧ a < 6 ∧ ¬ a = 4
def Comp (k : Nat) (V : Nat → Nat) : Prop := ∀ c : Nat, c < k → 1 ≤ V (10 + 43 * c) ∧ 1 ≤ V (31 + 43 * c)
section MCAR
variable {b : Nat → Nat} {t : Nat} {tB mA mR : Nat → Int32} {V : Nat → Nat} {mO mF mQ mU : Int32} {mY : Int64}
theorem lg_adv (h : TapeB b t tB mA) {a nc e l e2 : Nat} {w : Nat → Nat} (he : e ≤ t) (hx : LGood b t a nc V e l w e2) : e + 2 ≤ e2 ∧ e2 ≤ t := by
  obtain ⟨⟨hw, hwl, h5, m1'⟩, f0, e', q1, q2, q3⟩ := hx
  obtain ⟨s1, _, s3, _⟩ := tok_facts h he
  obtain ⟨_, _, _, s7, s8⟩ := s3 (by omega)
  obtain ⟨r1, r2, _, _⟩ := rdN_ok h _ _ _ _ w e' s8 q1
  obtain ⟨p1, _, p3, _⟩ := tok_facts h r2
  obtain ⟨_, _, _, p7, p8⟩ := p3 (by omega)
  omega
theorem rx_fail (h : TapeB b t tB mA) {a nc e L : Nat} (hS : SOk t a nc V e L) {x : Nat × Nat} (hx : LFail b t a nc V e x) : RunX t tB a nc V e L (CFail x) := by
  obtain ⟨h1, h2, h3, h4, h5, h6⟩ := hS
  have ht := h.1
  exact ⟨1, by omega, ru_fail h h1 h5 h6 h4 h2 (by omega) hx⟩
theorem rx_step (h : TapeB b t tB mA) {a nc e L l e2 : Nat} {w : Nat → Nat} (hS : SOk t a nc V e L) (hx : LGood b t a nc V e l w e2) (hl4 : ¬ l = 4) : (∀ O : RdT → Prop, RunX t tB l (nextC nc l) (nextV nc l V w) e2 (L + 1) O → RunX t tB a nc V e L O) ∧ SOk t l (nextC nc l) (nextV nc l V w) e2 (L + 1) := by
  obtain ⟨h1, h2, h3, h4, h5, h6⟩ := hS
  have ht := h.1
  obtain ⟨q1, q2⟩ := lg_adv h h2 hx
  have hl5 : l < 5 := hx.1.2.2.1
  have hma := hx.1.2.2.2
  have hc : l = 1 ∨ l = 2 → 1 ≤ nc := by
    intro q; apply h4
    rcases hma with q' | q' | q' | q' | q' <;> omega
  have hV' : VOk (nextC nc l) (nextV nc l V w) := by
    obtain ⟨⟨hw, hwl, _, m1'⟩, f0, e', p1, p2, p3⟩ := hx
    obtain ⟨s1, _, s3, _⟩ := tok_facts h h2
    obtain ⟨_, _, _, s7, s8⟩ := s3 (by omega)
    obtain ⟨_, _, _, r4⟩ := rdN_ok h _ _ _ _ w e' s8 p1
    exact v_next hl5 h1 hc f0 (fun i hi => r4 i (by omega) (by omega))
  refine ⟨fun O hO => ?_, hV', q2, by omega, fun q => ?_, by omega, hl4⟩
  · obtain ⟨K, k1, k2⟩ := hO
    exact ⟨K + 1, by omega, ru_step h h1 h5 h6 h4 h2 (by omega) hx hl4 k2⟩
  · rw [nextC]
    by_cases q0 : l = 0
    · rw [if_pos q0]; omega
    · rw [if_neg q0]; exact hc (by omega)
/-- what a carrier's reading comes to -/
def COut (b : Nat → Nat) (t : Nat) (tB : Nat → Int32) (a nc : Nat) (V : Nat → Nat) (e L ne : Nat) (mG mP : Int32) (r : MdT) : Prop :=
  (∃ x : Nat × Nat, r.1 = 0 ∧ r.2.2.2.2.2.2.1 = nI x.1 ∧ r.2.2.2.2.2.2.2.1 = nI x.2 ∧ RunX t tB a nc V e L (CFail x)) ∨
  (∃ (V' : Nat → Nat) (e' L' : Nat) (mR' : Nat → Int32) (o f q u : Int32) (y : Int64), r = (1, mR', o, f, q, u, mG, mP, y, nI L') ∧ MTok b t e' o f q u y ∧ MRw V' mR' ∧ mR' 0 = nI ne ∧ SOk t 2 ne V' e' L' ∧ Comp ne V' ∧ ¬ (tKd b t e' = 2 ∧ tWd b t e' = 2) ∧ ∀ O : RdT → Prop, RunX t tB 2 ne V' e' L' O → RunX t tB a nc V e L O)
theorem m_isZ (h : TapeB b t tB mA) {e : Nat} (hT : MTok b t e mO mF mQ mU mY) : (tKd b t e = 2 ∧ tWd b t e = 2 → f_X7_isZonesWord mQ mY = 1) ∧ (¬ (tKd b t e = 2 ∧ tWd b t e = 2) → f_X7_isZonesWord mQ mY = 0) ∧ k_X7_isZonesWord mQ mY := by
  obtain ⟨i1, i0⟩ := m_isWord h (k := 2) (by omega) hT (code := f_X7_five 122 111 110 101 115) (by decide +kernel) (by decide +kernel)
  refine ⟨i1, i0, ?_, trivial⟩
  by_cases hw : tKd b t e = 2 ∧ tWd b t e = 2
  · exact Or.inr (i1 hw)
  · exact Or.inl (i0 hw)
theorem m_isB (h : TapeB b t tB mA) {e : Nat} (hT : MTok b t e mO mF mQ mU mY) : (tKd b t e = 2 ∧ tWd b t e = 1 → f_X7_isBreakWord mQ mY = 1) ∧ (¬ (tKd b t e = 2 ∧ tWd b t e = 1) → f_X7_isBreakWord mQ mY = 0) ∧ k_X7_isBreakWord mQ mY := by
  obtain ⟨i1, i0⟩ := m_isWord h (k := 1) (by omega) hT (code := f_X7_five 98 114 101 97 107) (by decide +kernel) (by decide +kernel)
  refine ⟨i1, i0, ?_, trivial⟩
  by_cases hw : tKd b t e = 2 ∧ tWd b t e = 1
  · exact Or.inr (i1 hw)
  · exact Or.inl (i0 hw)
theorem m_isC (h : TapeB b t tB mA) {e : Nat} (hT : MTok b t e mO mF mQ mU mY) : (tKd b t e = 2 ∧ tWd b t e = 0 → f_X7_isCarrierWord mQ mY = 1) ∧ (¬ (tKd b t e = 2 ∧ tWd b t e = 0) → f_X7_isCarrierWord mQ mY = 0) ∧ k_X7_isCarrierWord mQ mY := by
  obtain ⟨i1, i0⟩ := m_isWord h (k := 0) (by omega) hT (code := (729 * (f_X7_five 99 97 114 114 105)) + (f_X7_two 101 114)) (by decide +kernel) (by decide +kernel)
  refine ⟨i1, i0, ?_, trivial⟩
  by_cases hw : tKd b t e = 2 ∧ tWd b t e = 0
  · exact Or.inr (i1 hw)
  · exact Or.inl (i0 hw)
theorem nv2 {m : Nat} {w : Nat → Nat} (hV : VOk (m + 1) V) (hf : ¬ fullL (m + 1) V 2) : nextV (m + 1) 2 V w (31 + 43 * m) = V (31 + 43 * m) + 1 ∧ (∀ c : Nat, c < 3 → nextV (m + 1) 2 V w (10 + 43 * c) = V (10 + 43 * c)) ∧ ∀ c : Nat, c < m → nextV (m + 1) 2 V w (31 + 43 * c) = V (31 + 43 * c) := by
  have hm3 : m < 3 := by have := hV.1; omega
  have hb := hV.2.2.1 m hm3
  have e : nextV (m + 1) 2 V w = updN (putL V (32 + 43 * m + 5 * V (31 + 43 * m)) 5 w) (31 + 43 * m) (V (31 + 43 * m) + 1) := by
    rw [nextV, if_neg (by omega), if_neg (by omega), if_pos rfl, Nat.add_sub_cancel]
  have hn3 : ¬ V (31 + 43 * m) = 3 := by
    intro q
    apply hf
    refine Or.inr (Or.inr (Or.inl ⟨rfl, ?_⟩))
    rw [Nat.add_sub_cancel]; exact q
  rw [e]
  refine ⟨updN_eq, fun c hc => ?_, fun c hc => ?_⟩
  · rw [updN_ne (by omega), putL_out (by rcases Nat.lt_trichotomy c m with q | q | q <;> omega)]
  · rw [updN_ne (by omega), putL_out (by omega)]
theorem nv1 {m : Nat} {w : Nat → Nat} (hV : VOk (m + 1) V) (hf : ¬ fullL (m + 1) V 1) : nextV (m + 1) 1 V w (10 + 43 * m) = V (10 + 43 * m) + 1 ∧ (∀ c : Nat, c < m → nextV (m + 1) 1 V w (10 + 43 * c) = V (10 + 43 * c) ∧ nextV (m + 1) 1 V w (31 + 43 * c) = V (31 + 43 * c)) := by
  have hm3 : m < 3 := by have := hV.1; omega
  have hb := hV.2.2.1 m hm3
  have e : nextV (m + 1) 1 V w = updN (putL V (11 + 43 * m + 4 * V (10 + 43 * m)) 4 w) (10 + 43 * m) (V (10 + 43 * m) + 1) := by
    rw [nextV, if_neg (by omega), if_pos rfl, Nat.add_sub_cancel]
  rw [e]
  refine ⟨updN_eq, fun c hc => ⟨?_, ?_⟩⟩
  · rw [updN_ne (by omega), putL_out (by omega)]
  · rw [updN_ne (by omega), putL_out (by omega)]
theorem m_zonesL (h : TapeB b t tB mA) {m : Nat} (mG mP : Int32) : ∀ (n a e L : Nat) (V : Nat → Nat) (mR : Nat → Int32) (mO mF mQ mU : Int32) (mY : Int64), SOk t a (m + 1) V e L → 3 < V (31 + 43 * m) + n → ((a = 1 ∧ ¬ (tKd b t e = 2 ∧ tWd b t e = 1)) ∨ (a = 2 ∧ tKd b t e = 2 ∧ tWd b t e = 2)) → MTok b t e mO mF mQ mU mY → MRw V mR → mR 0 = nI m → Comp m V → 1 ≤ V (10 + 43 * m) →
    k_X7_readCarrier_L152 mA (nI t) n (nI (4 + 43 * m)) mR mO mF mQ mU mG mP mY (nI L) ∧ COut b t tB a (m + 1) V e L (m + 1) mG mP (f_X7_readCarrier_L152 mA (nI t) n (nI (4 + 43 * m)) mR mO mF mQ mU mG mP mY (nI L)) := by
  intro n
  induction n with
  | zero =>
    intro a e L V mR mO mF mQ mU mY hS h1
    have hm3 : m < 3 := by have := hS.1.1; omega
    have := (hS.1.2.2.1 m hm3).2.1
    omega
  | succ n ih =>
    intro a e L V mR mO mF mQ mU mY hS h1 ha hT hM h0 hC hb
    have ma : mayF 2 a := by
      rcases ha with ⟨q, _⟩ | ⟨q, _⟩
      · exact Or.inr (Or.inl ⟨q, Or.inr rfl⟩)
      · exact Or.inr (Or.inr (Or.inl ⟨q, by omega⟩))
    have hW : tKd b t e = 2 → tWd b t e < 5 → mayF (tWd b t e) a → tWd b t e = 2 := by
      intro p1 p2 p3
      rcases ha with ⟨q, q2⟩ | ⟨q, q1, q2⟩
      · rcases p3 with q' | q' | q' | q' | q' <;> omega
      · exact q2
    obtain ⟨k1, r1⟩ := m_zones h hS.1 hT hM ma hW mG mP (nI L)
    rw [f_X7_readCarrier_L152, k_X7_readCarrier_L152]
    rcases r1 with ⟨x, x1, x2, x3, x4⟩ | ⟨w, e2, mR', o, f, q, u, y, g1, g2, g3, g4, g5⟩
    · rw [if_pos x2, if_pos x2]
      exact ⟨⟨k1, trivial⟩, Or.inl ⟨x, rfl, x3, x4, rx_fail h hS x1⟩⟩
    · obtain ⟨p1, p2⟩ := rx_step h hS g1 (by omega)
      obtain ⟨v1, v2, v3⟩ := nv2 (w := w) hS.1 g1.2.1
      have hm3 : m < 3 := by have := hS.1.1; omega
      have ec : nextC (m + 1) 2 = m + 1 := rfl
      rw [ec] at p1 p2
      have hC' : Comp m (nextV (m + 1) 2 V w) := by
        intro c hc
        rw [v2 c (by omega), v3 c hc]; exact hC c hc
      rw [g2]
      simp only [if_neg one0]
      obtain ⟨i1, i0, ik⟩ := m_isZ h g3
      by_cases hz : tKd b t e2 = 2 ∧ tWd b t e2 = 2
      · rw [i1 hz, if_neg one0, if_neg one0, nI_1]
        obtain ⟨q1, q2⟩ := ih 2 e2 (L + 1) (nextV (m + 1) 2 V w) mR' o f q u y p2 (by rw [v1]; omega) (Or.inr ⟨rfl, hz⟩) g3 g4 (g5.trans h0) hC' (by rw [v2 m hm3]; exact hb)
        refine ⟨⟨k1, ik, q1⟩, ?_⟩
        rcases q2 with ⟨x, x1, x2, x3, x4⟩ | ⟨V', e', L', mR2, o2, f2, q2', u2, y2, z1, z2, z3, z4, z5, z6, z7, z8⟩
        · exact Or.inl ⟨x, x1, x2, x3, p1 _ x4⟩
        · exact Or.inr ⟨V', e', L', mR2, o2, f2, q2', u2, y2, z1, z2, z3, z4, z5, z6, z7, fun O hO => p1 O (z8 O hO)⟩
      · rw [i0 hz, if_pos rfl, if_pos rfl, f_X7_readCarrier_L179, k_X7_readCarrier_L179, nI_1]
        refine ⟨⟨k1, ik, trivial⟩, Or.inr ⟨nextV (m + 1) 2 V w, e2, L + 1, _, o, f, q, u, y, rfl, g3, ?_, ?_, p2, ?_, hz, p1⟩⟩
        · intro j j1 j2
          rw [show Int32.toNatClampNeg 0 = 0 from rfl, upd_ne (by omega)]; exact g4 j j1 j2
        · rw [show Int32.toNatClampNeg 0 = 0 from rfl, upd_eq, g5, h0]; exact nI_1 m
        · intro c hc
          by_cases hcm : c = m
          · subst hcm; rw [v1, v2 c hm3]; exact ⟨hb, by omega⟩
          · exact hC' c (by omega)
theorem m_breaksL (h : TapeB b t tB mA) {m : Nat} (mG mP : Int32) : ∀ (n a e L : Nat) (V : Nat → Nat) (mR : Nat → Int32) (mO mF mQ mU : Int32) (mY : Int64), SOk t a (m + 1) V e L → 5 < V (10 + 43 * m) + n → (a = 0 ∨ (a = 1 ∧ tKd b t e = 2 ∧ tWd b t e = 1)) → MTok b t e mO mF mQ mU mY → MRw V mR → mR 0 = nI m → Comp m V →
    k_X7_readCarrier_L135 mA (nI t) n (nI (4 + 43 * m)) mR mO mF mQ mU mG mP mY (nI L) ∧ COut b t tB a (m + 1) V e L (m + 1) mG mP (f_X7_readCarrier_L135 mA (nI t) n (nI (4 + 43 * m)) mR mO mF mQ mU mG mP mY (nI L)) := by
  intro n
  induction n with
  | zero =>
    intro a e L V mR mO mF mQ mU mY hS h1
    have hm3 : m < 3 := by have := hS.1.1; omega
    have := (hS.1.2.2.1 m hm3).1
    omega
  | succ n ih =>
    intro a e L V mR mO mF mQ mU mY hS h1 ha hT hM h0 hC
    have ma : mayF 1 a := by
      rcases ha with q | ⟨q, _⟩
      · exact Or.inl ⟨q, rfl⟩
      · exact Or.inr (Or.inl ⟨q, Or.inl rfl⟩)
    have hW : tKd b t e = 2 → tWd b t e < 5 → mayF (tWd b t e) a → tWd b t e = 1 := by
      intro p1 p2 p3
      rcases ha with q | ⟨q, q1, q2⟩
      · rcases p3 with q' | q' | q' | q' | q' <;> omega
      · exact q2
    obtain ⟨k1, r1⟩ := m_break h hS.1 hT hM ma hW mG mP (nI L)
    rw [f_X7_readCarrier_L135, k_X7_readCarrier_L135]
    rcases r1 with ⟨x, x1, x2, x3, x4⟩ | ⟨w, e2, mR', o, f, q, u, y, g1, g2, g3, g4, g5⟩
    · rw [if_pos x2, if_pos x2]
      exact ⟨⟨k1, trivial⟩, Or.inl ⟨x, rfl, x3, x4, rx_fail h hS x1⟩⟩
    · obtain ⟨p1, p2⟩ := rx_step h hS g1 (by omega)
      obtain ⟨v1, v2⟩ := nv1 (w := w) hS.1 g1.2.1
      have hm3 : m < 3 := by have := hS.1.1; omega
      have ec : nextC (m + 1) 1 = m + 1 := rfl
      rw [ec] at p1 p2
      have hC' : Comp m (nextV (m + 1) 1 V w) := by
        intro c hc
        rw [(v2 c hc).1, (v2 c hc).2]; exact hC c hc
      have lift : ∀ r : MdT, COut b t tB 1 (m + 1) (nextV (m + 1) 1 V w) e2 (L + 1) (m + 1) mG mP r → COut b t tB a (m + 1) V e L (m + 1) mG mP r := by
        intro r q2
        rcases q2 with ⟨x, x1, x2, x3, x4⟩ | ⟨V', e', L', mR2, o2, f2, q2', u2, y2, z1, z2, z3, z4, z5, z6, z7, z8⟩
        · exact Or.inl ⟨x, x1, x2, x3, p1 _ x4⟩
        · exact Or.inr ⟨V', e', L', mR2, o2, f2, q2', u2, y2, z1, z2, z3, z4, z5, z6, z7, fun O hO => p1 O (z8 O hO)⟩
      rw [g2]
      simp only [if_neg one0]
      obtain ⟨i1, i0, ik⟩ := m_isB h g3
      by_cases hz : tKd b t e2 = 2 ∧ tWd b t e2 = 1
      · rw [i1 hz, if_neg one0, if_neg one0, nI_1]
        obtain ⟨q1, q2⟩ := ih 1 e2 (L + 1) (nextV (m + 1) 1 V w) mR' o f q u y p2 (by rw [v1]; omega) (Or.inr ⟨rfl, hz⟩) g3 g4 (g5.trans h0) hC'
        exact ⟨⟨k1, ik, q1⟩, lift _ q2⟩
      · rw [i0 hz, if_pos rfl, if_pos rfl, nI_1]
        obtain ⟨q1, q2⟩ := m_zonesL h mG mP FU 1 e2 (L + 1) (nextV (m + 1) 1 V w) mR' o f q u y p2 (by have := FU_big (n := 3) (by omega); omega) (Or.inl ⟨rfl, hz⟩) g3 g4 (g5.trans h0) hC' (by rw [v1]; omega)
        exact ⟨⟨k1, ik, q1⟩, lift _ q2⟩
theorem m_carrier (h : TapeB b t tB mA) {nc a e L : Nat} (hS : SOk t a nc V e L) (ha : (a = 5) ∨ (a = 2 ∧ tKd b t e = 2 ∧ tWd b t e = 0)) (hT : MTok b t e mO mF mQ mU mY) (hM : MRw V mR) (h0 : mR 0 = nI nc) (hC : Comp nc V) (mG mP : Int32) :
    k_X7_readCarrier mA mR (nI t) mO mF mQ mU mG mP mY (nI L) ∧ COut b t tB a nc V e L (nc + 1) mG mP (f_X7_readCarrier mA mR (nI t) mO mF mQ mU mG mP mY (nI L)) := by
  have ma : mayF 0 a := by
    rcases ha with q | ⟨q, _⟩
    · exact Or.inr (Or.inr (Or.inr (Or.inr ⟨q, rfl⟩)))
    · exact Or.inr (Or.inr (Or.inl ⟨q, by omega⟩))
  have hW : tKd b t e = 2 → tWd b t e < 5 → mayF (tWd b t e) a → tWd b t e = 0 := by
    intro p1 p2 p3
    rcases ha with q | ⟨q, q1, q2⟩
    · rcases p3 with q' | q' | q' | q' | q' <;> omega
    · exact q2
  rcases m_car h hS.1 hT hM h0 ma hW mG mP (nI L) with ⟨x, x1, x0, x2, x3, x4⟩ | ⟨w, e2, mR', o, f, q, u, y, g1, g3, g4, g5, g2, gk⟩
  · exact ⟨x0, Or.inl ⟨x, x2, x3, x4, rx_fail h hS x1⟩⟩
  · obtain ⟨p1, p2⟩ := rx_step h hS g1 (by omega)
    have ec : nextC nc 0 = nc + 1 := rfl
    rw [ec] at p1 p2
    have hn3 : nc < 3 := by have := p2.1.1; omega
    have e0 : nextV nc 0 V w = putL V (4 + 43 * nc) 6 w := by rw [nextV, if_pos rfl]
    have hC' : Comp nc (nextV nc 0 V w) := by
      intro c hc
      rw [e0, putL_out (by omega), putL_out (by omega)]; exact hC c hc
    rw [nI_1] at g2 gk
    obtain ⟨q1, q2⟩ := m_breaksL h mG mP FU 0 e2 (L + 1) (nextV nc 0 V w) mR' o f q u y p2 (by have := FU_big (n := 5) (by omega); omega) (Or.inl rfl) g3 g4 (g5.trans h0) hC'
    rw [g2]
    refine ⟨gk q1, ?_⟩
    rcases q2 with ⟨x, x1, x2, x3, x4⟩ | ⟨V', e', L', mR2, o2, f2, q2', u2, y2, z1, z2, z3, z4, z5, z6, z7, z8⟩
    · exact Or.inl ⟨x, x1, x2, x3, p1 _ x4⟩
    · exact Or.inr ⟨V', e', L', mR2, o2, f2, q2', u2, y2, z1, z2, z3, z4, z5, z6, z7, fun O hO => p1 O (z8 O hO)⟩
end MCAR
