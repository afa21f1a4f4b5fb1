/-! PURE, 40: the model's loops over prices and over zones of a line -/
section MLOOP
variable {b : Nat → Nat} {t : Nat} {tB mA : Nat → Int32} {V : Nat → Nat}
theorem m_brkL (h : TapeB b t tB mA) {m : Nat} (hm : m < 3) {base : Nat} (hb1 : 1 ≤ base) (hb2 : base + 4 ≤ 181) {LO HI : Nat → Nat} (hLO : ∀ z : Nat, 1 ≤ z → z < 4 → LO z = 0 ∧ HI z = 999) (mG mP mL : Int32) : ∀ (n i fu : Nat) (w : Nat → Nat) (e : Nat) (mR : Nat → Int32) (mO mF mQ mU : Int32) (mY : Int64), 4 = i + n → 1 ≤ i → n < fu → MTok b t e mO mF mQ mU mY → MRw (putL V base i w) mR →
    (∀ x : Nat × Nat, rdN b t LO HI n i w e = .inl x → k_X7_readBreak_L80 (nI (4 + 43 * m)) mA (nI t) mL fu (nI base) (nI i) mR mO mF mQ mU mG mP mY ∧ ∃ (mR' : Nat → Int32) (o f q u : Int32) (y : Int64), f_X7_readBreak_L80 (nI (4 + 43 * m)) mA (nI t) mL fu (nI base) (nI i) mR mO mF mQ mU mG mP mY = (0, mR', o, f, q, u, nI x.1, nI x.2, y, mL)) ∧
    (∀ (w' : Nat → Nat) (e' : Nat), rdN b t LO HI n i w e = .inr (w', e') → k_X7_readBreak_L80 (nI (4 + 43 * m)) mA (nI t) mL fu (nI base) (nI i) mR mO mF mQ mU mG mP mY ∧
      ((¬ tKd b t e' = 4 ∧ ∃ (mR' : Nat → Int32) (o f q u : Int32) (y : Int64), f_X7_readBreak_L80 (nI (4 + 43 * m)) mA (nI t) mL fu (nI base) (nI i) mR mO mF mQ mU mG mP mY = (0, mR', o, f, q, u, 1, nI (tSt b t e'), y, mL)) ∨
       (tKd b t e' = 4 ∧ ∃ (mR' : Nat → Int32) (o f q u : Int32) (y : Int64), f_X7_readBreak_L80 (nI (4 + 43 * m)) mA (nI t) mL fu (nI base) (nI i) mR mO mF mQ mU mG mP mY = (1, mR', o, f, q, u, mG, mP, y, mL + 1) ∧ MTok b t (tEn b t e') o f q u y ∧ mR' 0 = mR 0 ∧ ∃ mR2 : Nat → Int32, MRw (putL V base 4 w') mR2 ∧ mR' = upd mR2 (10 + 43 * m) (mR2 (10 + 43 * m) + 1)))) := by
  intro n
  induction n with
  | zero =>
    intro i fu w e mR mO mF mQ mU mY h1 h2 h3 hT hM
    obtain ⟨f', rfl⟩ : ∃ f', fu = f' + 1 := ⟨fu - 1, by omega⟩
    have g1 : (4 : Int32) ≤ nI i := nI_le (a := 4) (by omega) (by omega)
    have ei : i = 4 := by omega
    have v : vp_in (nI (10 + 43 * m)) 181 := vp_in_nI (by omega) (by omega)
    have e6 : nI (4 + 43 * m) + 6 = nI (10 + 43 * m) := by rw [lit 6, nI_add]; congr 1; omega
    obtain ⟨s1, s2⟩ := m_sign h hT mG mP mL
    rw [f_X7_readBreak_L80, k_X7_readBreak_L80, if_pos g1, if_pos g1, rdN, e6, cl (show 10 + 43 * m < 2 ^ 31 by omega)]
    refine ⟨fun x hx => (by cases hx), fun w' e' hx => ?_⟩
    cases hx
    subst ei
    rcases s2 with ⟨q1, o, f, q, u, y, q2, q3⟩ | ⟨q1, o, f, q, u, y, q2⟩
    · rw [q2]
      exact ⟨⟨v, v, s1, Or.inr rfl, trivial⟩, Or.inr ⟨q1, _, _, _, _, _, _, rfl, q3, upd_ne (by omega), mR, hM, rfl⟩⟩
    · rw [q2]
      exact ⟨⟨v, v, s1, Or.inl rfl, trivial⟩, Or.inl ⟨q1, _, _, _, _, _, _, rfl⟩⟩
  | succ n ih =>
    intro i fu w e mR mO mF mQ mU mY h1 h2 h3 hT hM
    obtain ⟨f', rfl⟩ : ∃ f', fu = f' + 1 := ⟨fu - 1, by omega⟩
    have g1 : ¬ (4 : Int32) ≤ nI i := nI_ge (b := 4) (by omega) (by omega)
    obtain ⟨l1, l2⟩ := hLO i h2 (by omega)
    obtain ⟨m1, m2⟩ := m_num h (n := n) (LO := LO) (HI := HI) (lo := 0) (hi := 999) hT hM hb1 (by omega) (by omega) (by omega) (nI_add base i) (x2 := 0) (x3 := 999) rfl rfl l1 l2 mG mP
    rw [f_X7_readBreak_L80, k_X7_readBreak_L80, if_neg g1, if_neg g1]
    rcases m2 with ⟨mR', o, f, q, u, y, q1, q2, q3, q4, q5⟩ | ⟨x, o, f, q, u, y, q1, q2⟩
    · rw [q1, q5]
      simp only [if_neg one0, nI_1]
      obtain ⟨r1, r2⟩ := ih (i + 1) f' (updN w i (tNm b t e)) (tEn b t e) mR' o f q u y (by omega) (by omega) (by omega) q2 q3
      refine ⟨fun x hx => ?_, fun w' e' hx => ?_⟩
      · obtain ⟨y1, y2⟩ := r1 x hx
        exact ⟨⟨m1, y1⟩, y2⟩
      · obtain ⟨y1, y2⟩ := r2 w' e' hx
        rw [q4] at y2
        exact ⟨⟨m1, y1⟩, y2⟩
    · rw [q1, q2]
      simp only [if_true]
      refine ⟨fun x' hx => ?_, fun w' e' hx => (by cases hx)⟩
      cases hx
      exact ⟨⟨m1, trivial⟩, _, _, _, _, _, _, rfl⟩
theorem m_znsL (h : TapeB b t tB mA) {m : Nat} (hm : m < 3) {base : Nat} (hb1 : 1 ≤ base) (hb2 : base + 5 ≤ 181) {LO HI : Nat → Nat} (hLO : ∀ z : Nat, 1 ≤ z → z < 5 → LO z = 0 ∧ HI z = 3) (mG mP mL : Int32) : ∀ (n i fu : Nat) (w : Nat → Nat) (e : Nat) (mR : Nat → Int32) (mO mF mQ mU : Int32) (mY : Int64), 5 = i + n → 1 ≤ i → n < fu → MTok b t e mO mF mQ mU mY → MRw (putL V base i w) mR →
    (∀ x : Nat × Nat, rdN b t LO HI n i w e = .inl x → k_X7_readZones_L88 (nI (4 + 43 * m)) mA (nI t) mL fu (nI base) (nI i) mR mO mF mQ mU mG mP mY ∧ ∃ (mR' : Nat → Int32) (o f q u : Int32) (y : Int64), f_X7_readZones_L88 (nI (4 + 43 * m)) mA (nI t) mL fu (nI base) (nI i) mR mO mF mQ mU mG mP mY = (0, mR', o, f, q, u, nI x.1, nI x.2, y, mL)) ∧
    (∀ (w' : Nat → Nat) (e' : Nat), rdN b t LO HI n i w e = .inr (w', e') → k_X7_readZones_L88 (nI (4 + 43 * m)) mA (nI t) mL fu (nI base) (nI i) mR mO mF mQ mU mG mP mY ∧
      ((¬ tKd b t e' = 4 ∧ ∃ (mR' : Nat → Int32) (o f q u : Int32) (y : Int64), f_X7_readZones_L88 (nI (4 + 43 * m)) mA (nI t) mL fu (nI base) (nI i) mR mO mF mQ mU mG mP mY = (0, mR', o, f, q, u, 1, nI (tSt b t e'), y, mL)) ∨
       (tKd b t e' = 4 ∧ ∃ (mR' : Nat → Int32) (o f q u : Int32) (y : Int64), f_X7_readZones_L88 (nI (4 + 43 * m)) mA (nI t) mL fu (nI base) (nI i) mR mO mF mQ mU mG mP mY = (1, mR', o, f, q, u, mG, mP, y, mL + 1) ∧ MTok b t (tEn b t e') o f q u y ∧ mR' 0 = mR 0 ∧ ∃ mR2 : Nat → Int32, MRw (putL V base 5 w') mR2 ∧ mR' = upd mR2 (31 + 43 * m) (mR2 (31 + 43 * m) + 1)))) := by
  intro n
  induction n with
  | zero =>
    intro i fu w e mR mO mF mQ mU mY h1 h2 h3 hT hM
    obtain ⟨f', rfl⟩ : ∃ f', fu = f' + 1 := ⟨fu - 1, by omega⟩
    have g1 : (5 : Int32) ≤ nI i := nI_le (a := 5) (by omega) (by omega)
    have ei : i = 5 := by omega
    have v : vp_in (nI (31 + 43 * m)) 181 := vp_in_nI (by omega) (by omega)
    have e6 : nI (4 + 43 * m) + 27 = nI (31 + 43 * m) := by rw [lit 27, nI_add]; congr 1; omega
    obtain ⟨s1, s2⟩ := m_sign h hT mG mP mL
    rw [f_X7_readZones_L88, k_X7_readZones_L88, if_pos g1, if_pos g1, rdN, e6, cl (show 31 + 43 * m < 2 ^ 31 by omega)]
    refine ⟨fun x hx => (by cases hx), fun w' e' hx => ?_⟩
    cases hx
    subst ei
    rcases s2 with ⟨q1, o, f, q, u, y, q2, q3⟩ | ⟨q1, o, f, q, u, y, q2⟩
    · rw [q2]
      exact ⟨⟨v, v, s1, Or.inr rfl, trivial⟩, Or.inr ⟨q1, _, _, _, _, _, _, rfl, q3, upd_ne (by omega), mR, hM, rfl⟩⟩
    · rw [q2]
      exact ⟨⟨v, v, s1, Or.inl rfl, trivial⟩, Or.inl ⟨q1, _, _, _, _, _, _, rfl⟩⟩
  | succ n ih =>
    intro i fu w e mR mO mF mQ mU mY h1 h2 h3 hT hM
    obtain ⟨f', rfl⟩ : ∃ f', fu = f' + 1 := ⟨fu - 1, by omega⟩
    have g1 : ¬ (5 : Int32) ≤ nI i := nI_ge (b := 5) (by omega) (by omega)
    obtain ⟨l1, l2⟩ := hLO i h2 (by omega)
    obtain ⟨m1, m2⟩ := m_num h (n := n) (LO := LO) (HI := HI) (lo := 0) (hi := 3) hT hM hb1 (by omega) (by omega) (by omega) (nI_add base i) (x2 := 0) (x3 := 3) rfl rfl l1 l2 mG mP
    rw [f_X7_readZones_L88, k_X7_readZones_L88, if_neg g1, if_neg g1]
    rcases m2 with ⟨mR', o, f, q, u, y, q1, q2, q3, q4, q5⟩ | ⟨x, o, f, q, u, y, q1, q2⟩
    · rw [q1, q5]
      simp only [if_neg one0, nI_1]
      obtain ⟨r1, r2⟩ := ih (i + 1) f' (updN w i (tNm b t e)) (tEn b t e) mR' o f q u y (by omega) (by omega) (by omega) q2 q3
      refine ⟨fun x hx => ?_, fun w' e' hx => ?_⟩
      · obtain ⟨y1, y2⟩ := r1 x hx
        exact ⟨⟨m1, y1⟩, y2⟩
      · obtain ⟨y1, y2⟩ := r2 w' e' hx
        rw [q4] at y2
        exact ⟨⟨m1, y1⟩, y2⟩
    · rw [q1, q2]
      simp only [if_true]
      refine ⟨fun x' hx => ?_, fun w' e' hx => (by cases hx)⟩
      cases hx
      exact ⟨⟨m1, trivial⟩, _, _, _, _, _, _, rfl⟩
end MLOOP
