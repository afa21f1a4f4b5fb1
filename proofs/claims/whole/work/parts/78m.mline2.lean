/-! PURE, 42: the model's lines of carriers, goods, orders -/
section MLINE2
variable {b : Nat → Nat} {t : Nat} {tB mA mR : Nat → Int32} {V : Nat → Nat} {mO mF mQ mU : Int32} {mY : Int64}
theorem lo_plain {c l i : Nat} (h1 : ¬ l = 1) (h2 : ¬ l = 2) : loN V c l i = loT.getD (6 * l + i) 0 ∧ hiN V c l i = hiT.getD (6 * l + i) 0 := by
  rw [loN, hiN, if_neg (by omega), if_neg (by omega), if_neg (by omega)]
  exact ⟨rfl, rfl⟩
theorem m_good (h : TapeB b t tB mA) {nc a e : Nat} (hV : VOk nc V) (hT : MTok b t e mO mF mQ mU mY) (hM : MRw V mR) (ha : mayF 3 a) (hw : tKd b t e = 2 ∧ tWd b t e = 3) (mG mP mL : Int32) :
    k_X7_readGood mA mR (nI t) mO mF mQ mU mG mP mY mL ∧ LRes b t a nc V e 3 (mR 0) mG mP mL (f_X7_readGood mA mR (nI t) mO mF mQ mU mG mP mY mL) := by
  have h8 := hV.2.1
  obtain ⟨t1, t2, t3, t4, t5, t6⟩ := hT
  obtain ⟨s1', s2', s3', _⟩ := tok_facts h t1
  obtain ⟨_, _, _, s7, s8⟩ := s3' (by omega)
  have ok : tKd b t e = 2 ∧ tWd b t e < 5 ∧ mayF (tWd b t e) a := ⟨hw.1, by omega, by rw [hw.2]; exact ha⟩
  have eo := (t4 hw.1).1
  have em : mR 1 = nI (V 1) := hM _ (by omega) (by omega)
  rw [f_X7_readGood, k_X7_readGood, show Int32.toNatClampNeg 1 = 1 from rfl, em]
  by_cases hf : V 1 = 8
  · have gf : nI (V 1) = (8 : Int32) := by rw [hf]; rfl
    have gb : f_X7_bad 3 mF mQ = (0, 3, mF) := by rw [f_X7_bad, t3, hw.1, if_neg (by decide)]
    rw [if_pos gf, if_pos gf, gb]
    refine ⟨⟨Or.inl rfl, trivial⟩, Or.inl ⟨(3, tSt b t e), Or.inr (Or.inl ⟨ok, ?_, rfl⟩), rfl, rfl, t2⟩⟩
    rw [hw.2]; exact Or.inr (Or.inr (Or.inr ⟨rfl, hf⟩))
  · have gf : ¬ nI (V 1) = (8 : Int32) := nI_ne (b := 8) (by omega) (by omega) hf
    have nf : ¬ fullL nc V 3 := by
      rintro (⟨q, _⟩ | ⟨q, q2⟩ | ⟨q, q2⟩ | ⟨q, q2⟩) <;> omega
    have nf' : ¬ fullL nc V (tWd b t e) := by rw [hw.2]; exact nf
    obtain ⟨g1, T0⟩ := m_tok h s8 mU mY
    rw [if_neg gf, if_neg gf, eo]
    generalize f_X7_go mA (nI t) (nI (tEn b t e)) mU mY = G at T0 ⊢
    have e0 : 133 + 4 * nI (V 1) = nI (133 + 4 * V 1) := by rw [lit 133, lit 4, nI_mul, nI_add]
    have rdeq : rdN b t (loN V (nc - 1) (tWd b t e)) (hiN V (nc - 1) (tWd b t e)) (cntL (tWd b t e)) 0 (fun _ => 0) (tEn b t e) = rdN b t (loN V (nc - 1) 3) (hiN V (nc - 1) 3) (2 + 1) 0 (fun _ => 0) (tEn b t e) := by rw [hw.2]; rfl
    have M0 : MRw (putL V (133 + 4 * V 1) 0 (fun _ => 0)) mR := by rw [putL_0]; exact hM
    rw [e0]
    obtain ⟨n0, p0⟩ := m_num h (n := 2) (LO := loN V (nc - 1) 3) (HI := hiN V (nc - 1) 3) (lo := 1) (hi := 99) T0 M0 (by omega) (by omega) (by omega) (by omega) (idx := nI (133 + 4 * V 1) + 0) (x2 := 1) (x3 := 99) (nI_add (133 + 4 * V 1) 0) rfl rfl (lo_plain (by omega) (by omega)).1 (lo_plain (by omega) (by omega)).2 mG mP
    rcases p0 with ⟨R1, o1, f1, q1, u1, y1, a0, T1, M1, Z1, D0⟩ | ⟨x, o, f, q, u, y, a0, D0⟩
    · rw [a0]
      simp only [if_neg one0]
      rw [f_X7_readGood_L47, k_X7_readGood_L47]
      obtain ⟨n1, p1⟩ := m_num h (n := 1) (LO := loN V (nc - 1) 3) (HI := hiN V (nc - 1) 3) (lo := 1) (hi := 999) T1 M1 (by omega) (by omega) (by omega) (by omega) (idx := nI (133 + 4 * V 1) + 1) (x2 := 1) (x3 := 999) (nI_add (133 + 4 * V 1) 1) rfl rfl (lo_plain (by omega) (by omega)).1 (lo_plain (by omega) (by omega)).2 mG mP
      rcases p1 with ⟨R2, o2, f2, q2, u2, y2, a1, T2, M2, Z2, D1⟩ | ⟨x, o, f, q, u, y, a1, D1⟩
      · rw [a1]
        simp only [if_neg one0]
        obtain ⟨n2, p2⟩ := m_num h (n := 0) (LO := loN V (nc - 1) 3) (HI := hiN V (nc - 1) 3) (lo := 1) (hi := 999) T2 M2 (by omega) (by omega) (by omega) (by omega) (idx := nI (133 + 4 * V 1) + 2) (x2 := 1) (x3 := 999) (nI_add (133 + 4 * V 1) 2) rfl rfl (lo_plain (by omega) (by omega)).1 (lo_plain (by omega) (by omega)).2 mG mP
        rcases p2 with ⟨R3, o3, f3, q3, u3, y3, a2, T3, M3, Z3, D2⟩ | ⟨x, o, f, q, u, y, a2, D2⟩
        · rw [a2]
          simp only [if_neg one0]
          rw [f_X7_readGood_L77, k_X7_readGood_L77]
          have dd := rdeq.trans (((D0).trans D1).trans D2)
          rw [rdN] at dd
          obtain ⟨w', e', dd, MM, TT⟩ : ∃ (w' : Nat → Nat) (e' : Nat), rdN b t (loN V (nc - 1) (tWd b t e)) (hiN V (nc - 1) (tWd b t e)) (cntL (tWd b t e)) 0 (fun _ => 0) (tEn b t e) = .inr (w', e') ∧ MRw (putL V (133 + 4 * V 1) 3 w') R3 ∧ MTok b t e' o3 f3 q3 u3 y3 := ⟨_, _, dd, M3, T3⟩
          obtain ⟨s1, s2⟩ := m_sign h TT mG mP mL
          have er : R3 1 = nI (V 1) := by rw [MM 1 (by omega) (by omega), putL_out (by omega)]
          rcases s2 with ⟨z1, o, f, q, u, y, z2, z3⟩ | ⟨z1, o, f, q, u, y, z2⟩
          · rw [z2]
            refine ⟨⟨g1, n0, n1, n2, s1, Or.inr rfl, trivial⟩, Or.inr ⟨w', tEn b t e', _, o, f, q, u, y, ⟨⟨hw.1, hw.2, by omega, ha⟩, nf, e', ?_, z1, rfl⟩, rfl, z3, ?_, ?_⟩⟩
            · rw [hw.2] at dd; exact dd
            · rw [show Int32.toNatClampNeg 1 = 1 from rfl, er, nextV, if_neg (by omega), if_neg (by omega), if_neg (by omega), if_pos rfl, nI_1]
              intro j j1 j2
              by_cases hj : j = 1
              · subst hj; rw [upd_eq, updN_eq]
              · rw [upd_ne hj, updN_ne hj]; exact MM j j1 j2
            · rw [show Int32.toNatClampNeg 1 = 1 from rfl, upd_ne (by omega), Z3, Z2, Z1]
          · rw [z2]
            exact ⟨⟨g1, n0, n1, n2, s1, Or.inl rfl, trivial⟩, Or.inl ⟨(1, tSt b t e'), Or.inr (Or.inr (Or.inr ⟨ok, nf', w', e', dd, z1, rfl⟩)), rfl, rfl, rfl⟩⟩
        · rw [a2]
          simp only [if_true]
          refine ⟨⟨g1, ⟨n0, ⟨n1, ⟨n2, trivial⟩⟩⟩⟩, Or.inl ⟨x, Or.inr (Or.inr (Or.inl ⟨ok, nf', rdeq.trans (((D0).trans D1).trans D2)⟩)), rfl, rfl, rfl⟩⟩
      · rw [a1]
        simp only [if_true]
        refine ⟨⟨g1, ⟨n0, ⟨n1, trivial⟩⟩⟩, Or.inl ⟨x, Or.inr (Or.inr (Or.inl ⟨ok, nf', rdeq.trans ((D0).trans D1)⟩)), rfl, rfl, rfl⟩⟩
    · rw [a0]
      simp only [if_true]
      refine ⟨⟨g1, ⟨n0, trivial⟩⟩, Or.inl ⟨x, Or.inr (Or.inr (Or.inl ⟨ok, nf', rdeq.trans (D0)⟩)), rfl, rfl, rfl⟩⟩
theorem m_car (h : TapeB b t tB mA) {nc a e : Nat} (hV : VOk nc V) (hT : MTok b t e mO mF mQ mU mY) (hM : MRw V mR) (hr0 : mR 0 = nI nc) (ha : mayF 0 a) (hW : tKd b t e = 2 → tWd b t e < 5 → mayF (tWd b t e) a → tWd b t e = 0) (mG mP mL : Int32) :
    (∃ x : Nat × Nat, LFail b t a nc V e x ∧ k_X7_readCarrier mA mR (nI t) mO mF mQ mU mG mP mY mL ∧ (f_X7_readCarrier mA mR (nI t) mO mF mQ mU mG mP mY mL).1 = 0 ∧ (f_X7_readCarrier mA mR (nI t) mO mF mQ mU mG mP mY mL).2.2.2.2.2.2.1 = nI x.1 ∧ (f_X7_readCarrier mA mR (nI t) mO mF mQ mU mG mP mY mL).2.2.2.2.2.2.2.1 = nI x.2) ∨
    (∃ (w : Nat → Nat) (e2 : Nat) (mR' : Nat → Int32) (o f q u : Int32) (y : Int64), LGood b t a nc V e 0 w e2 ∧ MTok b t e2 o f q u y ∧ MRw (nextV nc 0 V w) mR' ∧ mR' 0 = mR 0 ∧ f_X7_readCarrier mA mR (nI t) mO mF mQ mU mG mP mY mL = f_X7_readCarrier_L135 mA (nI t) FU (nI (4 + 43 * nc)) mR' o f q u mG mP y (mL + 1) ∧ (k_X7_readCarrier_L135 mA (nI t) FU (nI (4 + 43 * nc)) mR' o f q u mG mP y (mL + 1) → k_X7_readCarrier mA mR (nI t) mO mF mQ mU mG mP mY mL)) := by
  have hn := hV.1
  obtain ⟨i1, i0⟩ := m_isWord h (k := 0) (by omega) hT (code := (729 * (f_X7_five 99 97 114 114 105)) + (f_X7_two 101 114)) (by decide +kernel) (by decide +kernel)
  have kw : k_X7_isCarrierWord mQ mY := by
    by_cases hw : tKd b t e = 2 ∧ tWd b t e = 0
    · exact ⟨Or.inr (i1 hw), trivial⟩
    · exact ⟨Or.inl (i0 hw), trivial⟩
  obtain ⟨t1, t2, t3, t4, t5, t6⟩ := hT
  by_cases hw : tKd b t e = 2 ∧ tWd b t e = 0
  · have w1 : f_X7_isCarrierWord mQ mY = 1 := i1 hw
    obtain ⟨s1', s2', s3', _⟩ := tok_facts h t1
    obtain ⟨_, _, _, s7, s8⟩ := s3' (by omega)
    have ok : tKd b t e = 2 ∧ tWd b t e < 5 ∧ mayF (tWd b t e) a := ⟨hw.1, by omega, by rw [hw.2]; exact ha⟩
    have eo := (t4 hw.1).1
    rw [f_X7_readCarrier, k_X7_readCarrier, w1, if_neg one0, if_neg one0, show Int32.toNatClampNeg 0 = 0 from rfl, hr0]
    by_cases hf : nc = 3
    · have gf : nI nc = (3 : Int32) := by rw [hf]; rfl
      have gb : f_X7_bad 3 mF mQ = (0, 3, mF) := by rw [f_X7_bad, t3, hw.1, if_neg (by decide)]
      rw [if_pos gf, if_pos gf, gb]
      refine Or.inl ⟨(3, tSt b t e), Or.inr (Or.inl ⟨ok, ?_, rfl⟩), ⟨kw, Or.inl rfl, trivial⟩, rfl, rfl, t2⟩
      rw [hw.2]; exact Or.inl ⟨rfl, hf⟩
    · have gf : ¬ nI nc = (3 : Int32) := nI_ne (b := 3) (by omega) (by omega) hf
      have nf : ¬ fullL nc V 0 := by
        rintro (⟨q, _⟩ | ⟨q, q2⟩ | ⟨q, q2⟩ | ⟨q, q2⟩) <;> omega
      have nf' : ¬ fullL nc V (tWd b t e) := by rw [hw.2]; exact nf
      obtain ⟨g1, T0⟩ := m_tok h s8 mU mY
      rw [if_neg gf, if_neg gf, eo]
      generalize f_X7_go mA (nI t) (nI (tEn b t e)) mU mY = G at T0 ⊢
      have e0 : 4 + 43 * nI nc = nI (4 + 43 * nc) := by rw [lit 4, lit 43, nI_mul, nI_add]
      have rdeq : rdN b t (loN V (nc - 1) (tWd b t e)) (hiN V (nc - 1) (tWd b t e)) (cntL (tWd b t e)) 0 (fun _ => 0) (tEn b t e) = rdN b t (loN V (nc - 1) 0) (hiN V (nc - 1) 0) (5 + 1) 0 (fun _ => 0) (tEn b t e) := by rw [hw.2]; rfl
      have M0 : MRw (putL V (4 + 43 * nc) 0 (fun _ => 0)) mR := by rw [putL_0]; exact hM
      rw [e0]
      obtain ⟨n0, p0⟩ := m_num h (n := 5) (LO := loN V (nc - 1) 0) (HI := hiN V (nc - 1) 0) (lo := 1) (hi := 99) T0 M0 (by omega) (by omega) (by omega) (by omega) (idx := nI (4 + 43 * nc) + 0) (x2 := 1) (x3 := 99) (nI_add (4 + 43 * nc) 0) rfl rfl (lo_plain (by omega) (by omega)).1 (lo_plain (by omega) (by omega)).2 mG mP
      rcases p0 with ⟨R1, o1, f1, q1, u1, y1, a0, T1, M1, Z1, D0⟩ | ⟨x, o, f, q, u, y, a0, D0⟩
      · rw [a0]
        simp only [if_neg one0]
        rw [f_X7_readCarrier_L58, k_X7_readCarrier_L58]
        obtain ⟨n1, p1⟩ := m_num h (n := 4) (LO := loN V (nc - 1) 0) (HI := hiN V (nc - 1) 0) (lo := 1) (hi := 999) T1 M1 (by omega) (by omega) (by omega) (by omega) (idx := nI (4 + 43 * nc) + 1) (x2 := 1) (x3 := 999) (nI_add (4 + 43 * nc) 1) rfl rfl (lo_plain (by omega) (by omega)).1 (lo_plain (by omega) (by omega)).2 mG mP
        rcases p1 with ⟨R2, o2, f2, q2, u2, y2, a1, T2, M2, Z2, D1⟩ | ⟨x, o, f, q, u, y, a1, D1⟩
        · rw [a1]
          simp only [if_neg one0]
          obtain ⟨n2, p2⟩ := m_num h (n := 3) (LO := loN V (nc - 1) 0) (HI := hiN V (nc - 1) 0) (lo := 1) (hi := 99) T2 M2 (by omega) (by omega) (by omega) (by omega) (idx := nI (4 + 43 * nc) + 2) (x2 := 1) (x3 := 99) (nI_add (4 + 43 * nc) 2) rfl rfl (lo_plain (by omega) (by omega)).1 (lo_plain (by omega) (by omega)).2 mG mP
          rcases p2 with ⟨R3, o3, f3, q3, u3, y3, a2, T3, M3, Z3, D2⟩ | ⟨x, o, f, q, u, y, a2, D2⟩
          · rw [a2]
            simp only [if_neg one0]
            rw [f_X7_readCarrier_L85, k_X7_readCarrier_L85]
            obtain ⟨n3, p3⟩ := m_num h (n := 2) (LO := loN V (nc - 1) 0) (HI := hiN V (nc - 1) 0) (lo := 0) (hi := 99) T3 M3 (by omega) (by omega) (by omega) (by omega) (idx := nI (4 + 43 * nc) + 3) (x2 := 0) (x3 := 99) (nI_add (4 + 43 * nc) 3) rfl rfl (lo_plain (by omega) (by omega)).1 (lo_plain (by omega) (by omega)).2 mG mP
            rcases p3 with ⟨R4, o4, f4, q4, u4, y4, a3, T4, M4, Z4, D3⟩ | ⟨x, o, f, q, u, y, a3, D3⟩
            · rw [a3]
              simp only [if_neg one0]
              obtain ⟨n4, p4⟩ := m_num h (n := 1) (LO := loN V (nc - 1) 0) (HI := hiN V (nc - 1) 0) (lo := 1) (hi := 999) T4 M4 (by omega) (by omega) (by omega) (by omega) (idx := nI (4 + 43 * nc) + 4) (x2 := 1) (x3 := 999) (nI_add (4 + 43 * nc) 4) rfl rfl (lo_plain (by omega) (by omega)).1 (lo_plain (by omega) (by omega)).2 mG mP
              rcases p4 with ⟨R5, o5, f5, q5, u5, y5, a4, T5, M5, Z5, D4⟩ | ⟨x, o, f, q, u, y, a4, D4⟩
              · rw [a4]
                simp only [if_neg one0]
                rw [f_X7_readCarrier_L112, k_X7_readCarrier_L112]
                obtain ⟨n5, p5⟩ := m_num h (n := 0) (LO := loN V (nc - 1) 0) (HI := hiN V (nc - 1) 0) (lo := 0) (hi := 999) T5 M5 (by omega) (by omega) (by omega) (by omega) (idx := nI (4 + 43 * nc) + 5) (x2 := 0) (x3 := 999) (nI_add (4 + 43 * nc) 5) rfl rfl (lo_plain (by omega) (by omega)).1 (lo_plain (by omega) (by omega)).2 mG mP
                rcases p5 with ⟨R6, o6, f6, q6, u6, y6, a5, T6, M6, Z6, D5⟩ | ⟨x, o, f, q, u, y, a5, D5⟩
                · rw [a5]
                  simp only [if_neg one0]
                  have dd := rdeq.trans ((((((D0).trans D1).trans D2).trans D3).trans D4).trans D5)
                  rw [rdN] at dd
                  obtain ⟨w', e', dd, MM, TT⟩ : ∃ (w' : Nat → Nat) (e' : Nat), rdN b t (loN V (nc - 1) (tWd b t e)) (hiN V (nc - 1) (tWd b t e)) (cntL (tWd b t e)) 0 (fun _ => 0) (tEn b t e) = .inr (w', e') ∧ MRw (putL V (4 + 43 * nc) 6 w') R6 ∧ MTok b t e' o6 f6 q6 u6 y6 := ⟨_, _, dd, M6, T6⟩
                  obtain ⟨s1, s2⟩ := m_sign h TT mG mP mL
                  rcases s2 with ⟨z1, o, f, q, u, y, z2, z3⟩ | ⟨z1, o, f, q, u, y, z2⟩
                  · rw [z2]
                    simp only [if_neg one0]
                    refine Or.inr ⟨w', tEn b t e', R6, o, f, q, u, y, ⟨⟨hw.1, hw.2, by omega, ha⟩, nf, e', ?_, z1, rfl⟩, z3, ?_, ?_, rfl, fun kk => ⟨kw, g1, n0, n1, n2, n3, n4, n5, s1, kk⟩⟩
                    · rw [hw.2] at dd; exact dd
                    · rw [nextV, if_pos rfl]; exact MM
                    · rw [Z6, Z5, Z4, Z3, Z2, Z1]; exact hr0
                  · rw [z2]
                    simp only [if_true]
                    exact Or.inl ⟨(1, tSt b t e'), Or.inr (Or.inr (Or.inr ⟨ok, nf', w', e', dd, z1, rfl⟩)), ⟨kw, g1, n0, n1, n2, n3, n4, n5, s1, trivial⟩, rfl, rfl, rfl⟩
                · rw [a5]
                  simp only [if_true]
                  exact Or.inl ⟨x, Or.inr (Or.inr (Or.inl ⟨ok, nf', rdeq.trans ((((((D0).trans D1).trans D2).trans D3).trans D4).trans D5)⟩)), ⟨kw, g1, ⟨n0, ⟨n1, ⟨n2, ⟨n3, ⟨n4, ⟨n5, trivial⟩⟩⟩⟩⟩⟩⟩, rfl, rfl, rfl⟩
              · rw [a4]
                simp only [if_true]
                exact Or.inl ⟨x, Or.inr (Or.inr (Or.inl ⟨ok, nf', rdeq.trans (((((D0).trans D1).trans D2).trans D3).trans D4)⟩)), ⟨kw, g1, ⟨n0, ⟨n1, ⟨n2, ⟨n3, ⟨n4, trivial⟩⟩⟩⟩⟩⟩, rfl, rfl, rfl⟩
            · rw [a3]
              simp only [if_true]
              exact Or.inl ⟨x, Or.inr (Or.inr (Or.inl ⟨ok, nf', rdeq.trans ((((D0).trans D1).trans D2).trans D3)⟩)), ⟨kw, g1, ⟨n0, ⟨n1, ⟨n2, ⟨n3, trivial⟩⟩⟩⟩⟩, rfl, rfl, rfl⟩
          · rw [a2]
            simp only [if_true]
            exact Or.inl ⟨x, Or.inr (Or.inr (Or.inl ⟨ok, nf', rdeq.trans (((D0).trans D1).trans D2)⟩)), ⟨kw, g1, ⟨n0, ⟨n1, ⟨n2, trivial⟩⟩⟩⟩, rfl, rfl, rfl⟩
        · rw [a1]
          simp only [if_true]
          exact Or.inl ⟨x, Or.inr (Or.inr (Or.inl ⟨ok, nf', rdeq.trans ((D0).trans D1)⟩)), ⟨kw, g1, ⟨n0, ⟨n1, trivial⟩⟩⟩, rfl, rfl, rfl⟩
      · rw [a0]
        simp only [if_true]
        exact Or.inl ⟨x, Or.inr (Or.inr (Or.inl ⟨ok, nf', rdeq.trans (D0)⟩)), ⟨kw, g1, ⟨n0, trivial⟩⟩, rfl, rfl, rfl⟩
  · have w0 : f_X7_isCarrierWord mQ mY = 0 := i0 hw
    rw [f_X7_readCarrier, k_X7_readCarrier, w0, if_pos rfl, if_pos rfl, m_bad1]
    exact Or.inl ⟨(1, tSt b t e), Or.inl ⟨fun q => hw ⟨q.1, hW q.1 q.2.1 q.2.2⟩, rfl⟩, ⟨kw, Or.inl rfl, trivial⟩, rfl, rfl, t2⟩
end MLINE2
