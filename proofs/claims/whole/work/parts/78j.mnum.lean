/-! PURE, 39: the model's numbers and signs -/
def MRw (V : Nat → Nat) (mR : Nat → Int32) : Prop := ∀ j : Nat, 1 ≤ j → j < 181 → mR j = nI (V j)
theorem putL_0 {V w : Nat → Nat} {base : Nat} : putL V base 0 w = V := by
  funext i; rw [putL, if_neg (by omega)]
theorem putL_succ {V w : Nat → Nat} {base i x : Nat} : putL V base (i + 1) (updN w i x) = updN (putL V base i w) (base + i) x := by
  funext j
  rw [putL, updN, updN, putL]
  by_cases h : j = base + i
  · subst h
    rw [if_pos (by omega), if_pos (by omega), if_pos rfl]
  · rw [if_neg h]
    by_cases h2 : base ≤ j ∧ j < base + i
    · rw [if_pos (by omega), if_neg (by omega), if_pos h2]
    · rw [if_neg (by omega), if_neg h2]
section MNUM
variable {b : Nat → Nat} {t : Nat} {tB mA mR : Nat → Int32} {V w : Nat → Nat} {mO mF mQ mU mG mP mL : Int32} {mY : Int64}
theorem m_bad1 : f_X7_bad 1 mF mQ = (0, 1, mF) := by rw [f_X7_bad]; split <;> rfl
theorem m_num (h : TapeB b t tB mA) {base i n e lo hi : Nat} (hT : MTok b t e mO mF mQ mU mY) (hM : MRw (putL V base i w) mR) (hb : 1 ≤ base) (hbi : base + i < 181) (hlo : lo ≤ 1000) (hhi : hi ≤ 1000) {idx x2 x3 : Int32} (h1 : idx = nI (base + i)) (h2 : x2 = nI lo) (h3 : x3 = nI hi) {LO HI : Nat → Nat} (hL : LO i = lo) (hH : HI i = hi) (mG mP : Int32) :
    k_X7_told idx x2 x3 mA (nI t) mO mF mQ mU ∧
    ((∃ (mR' : Nat → Int32) (o f q u : Int32) (y : Int64), f_X7_told idx x2 x3 mA mR (nI t) mO mF mQ mU mG mP mY = (1, mR', o, f, q, u, mG, mP, y) ∧ MTok b t (tEn b t e) o f q u y ∧ MRw (putL V base (i + 1) (updN w i (tNm b t e))) mR' ∧ mR' 0 = mR 0 ∧ rdN b t LO HI (n + 1) i w e = rdN b t LO HI n (i + 1) (updN w i (tNm b t e)) (tEn b t e)) ∨
     (∃ (x : Nat × Nat) (o f q u : Int32) (y : Int64), f_X7_told idx x2 x3 mA mR (nI t) mO mF mQ mU mG mP mY = (0, mR, o, f, q, u, nI x.1, nI x.2, y) ∧ rdN b t LO HI (n + 1) i w e = .inl x)) := by
  obtain ⟨t1, t2, t3, t4, t5, t6⟩ := hT
  subst h1; subst h2; subst h3; subst t2
  obtain ⟨_, _, s3, s9⟩ := tok_facts h t1
  have hk := tKd_le (b := b) (t := t) (e := e)
  rw [f_X7_told, k_X7_told, t3, rdN]
  by_cases hk3 : tKd b t e = 3
  · have g3 : nI (tKd b t e) = (3 : Int32) := by rw [hk3]; rfl
    obtain ⟨o1, u1⟩ := t5 hk3
    obtain ⟨_, _, _, _, s8⟩ := s3 (by omega)
    have s9' := s9 hk3
    rw [if_pos g3, if_pos g3, if_pos hk3, u1, o1]
    by_cases hr : tNm b t e < lo ∨ hi < tNm b t e
    · have gr : f_X7_isIn (nI (tNm b t e)) (nI lo) (nI hi) = 0 := by
        rw [f_X7_isIn]
        rcases hr with q | q
        · rw [if_pos (nI_lt q (by omega))]
        · by_cases q2 : tNm b t e < lo
          · rw [if_pos (nI_lt q2 (by omega))]
          · rw [if_neg (nI_nlt (by omega) (by omega)), if_pos (nI_lt q (by omega))]
      have gb : f_X7_bad 2 (nI (tSt b t e)) (nI (tKd b t e)) = (0, 2, nI (tSt b t e)) := by rw [f_X7_bad, hk3, if_neg (by decide)]
      rw [gr, if_pos rfl, if_pos rfl, gb, if_pos (by rw [hL, hH]; exact hr)]
      exact ⟨⟨Or.inl rfl, trivial⟩, Or.inr ⟨(2, tSt b t e), _, _, _, _, _, rfl, rfl⟩⟩
    · have gr : f_X7_isIn (nI (tNm b t e)) (nI lo) (nI hi) = 1 := by
        rw [f_X7_isIn, if_neg (nI_nlt (by omega) (by omega)), if_neg (nI_nlt (by omega) (by omega))]
      obtain ⟨m1, m2⟩ := m_tok h s8 (nI (tNm b t e)) mY
      rw [gr, if_neg one0, if_neg one0, if_neg (by rw [hL, hH]; exact hr)]
      refine ⟨⟨vp_in_nI hbi (by omega), m1, trivial⟩, Or.inl ⟨_, _, _, _, _, _, rfl, m2, ?_, ?_, rfl⟩⟩
      · rw [cl (by omega), putL_succ]
        intro j j1 j2
        by_cases hj : j = base + i
        · subst hj; rw [upd_eq, updN_eq]
        · rw [upd_ne hj, updN_ne hj]; exact hM j j1 j2
      · rw [cl (by omega)]; exact upd_ne (by omega)
  · have g3 : ¬ nI (tKd b t e) = (3 : Int32) := nI_ne (b := 3) (by omega) (by omega) hk3
    rw [if_neg g3, if_neg g3, if_neg hk3, m_bad1]
    exact ⟨⟨Or.inl rfl, trivial⟩, Or.inr ⟨(1, tSt b t e), _, _, _, _, _, rfl, rfl⟩⟩
theorem m_sign (h : TapeB b t tB mA) {e : Nat} (hT : MTok b t e mO mF mQ mU mY) (mG mP mL : Int32) : k_X7_readEnd mA (nI t) mO mF mQ ∧
    ((tKd b t e = 4 ∧ ∃ (o f q u : Int32) (y : Int64), f_X7_readEnd mA (nI t) mO mF mQ mU mG mP mY mL = (1, o, f, q, u, mG, mP, y, mL + 1) ∧ MTok b t (tEn b t e) o f q u y) ∨
     (¬ tKd b t e = 4 ∧ ∃ (o f q u : Int32) (y : Int64), f_X7_readEnd mA (nI t) mO mF mQ mU mG mP mY mL = (0, o, f, q, u, 1, nI (tSt b t e), y, mL))) := by
  obtain ⟨t1, t2, t3, t4, t5, t6⟩ := hT
  subst t2
  obtain ⟨_, _, s3, s9⟩ := tok_facts h t1
  have hk := tKd_le (b := b) (t := t) (e := e)
  rw [f_X7_readEnd, k_X7_readEnd, t3]
  by_cases hk4 : tKd b t e = 4
  · have g4 : nI (tKd b t e) = (4 : Int32) := by rw [hk4]; rfl
    obtain ⟨_, _, _, _, s8⟩ := s3 (by omega)
    obtain ⟨m1, m2⟩ := m_tok h s8 mU mY
    rw [if_pos g4, if_pos g4, t6 hk4]
    exact ⟨⟨m1, trivial⟩, Or.inl ⟨hk4, _, _, _, _, _, rfl, m2⟩⟩
  · have g4 : ¬ nI (tKd b t e) = (4 : Int32) := nI_ne (b := 4) (by omega) (by omega) hk4
    rw [if_neg g4, if_neg g4, m_bad1]
    exact ⟨⟨Or.inl rfl, trivial⟩, Or.inr ⟨hk4, _, _, _, _, _, rfl⟩⟩
end MNUM
