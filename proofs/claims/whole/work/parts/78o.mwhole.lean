/-! PURE, 44: the model's whole text against the class's runs -/
def WOut (t : Nat) (tB : Nat → Int32) (a nc : Nat) (V : Nat → Nat) (e L : Nat) (mG : Int32) (r : MdT) : Prop :=
  (∃ x : Nat × Nat, r.1 = 0 ∧ r.2.2.2.2.2.2.1 = nI x.1 ∧ r.2.2.2.2.2.2.2.1 = nI x.2 ∧ RunX t tB a nc V e L (CFail x)) ∨
  (∃ (nc' : Nat) (V' : Nat → Nat) (L' : Nat), r.1 = 1 ∧ r.2.2.2.2.2.2.1 = mG ∧ r.2.2.2.2.2.2.2.2.2 = nI L' ∧ MRw V' r.2.1 ∧ r.2.1 0 = nI nc' ∧ VOk nc' V' ∧ Comp nc' V' ∧ 1 ≤ nc' ∧ V' 2 ≤ 3 ∧ V' 3 ≤ 99 ∧ RunX t tB a nc V e L (CDone L' nc' V'))
theorem w_lift {t : Nat} {tB : Nat → Int32} {a nc e L a2 nc2 e2 L2 : Nat} {V V2 : Nat → Nat} {mG : Int32} {r : MdT} (h : ∀ O : RdT → Prop, RunX t tB a2 nc2 V2 e2 L2 O → RunX t tB a nc V e L O) (hr : WOut t tB a2 nc2 V2 e2 L2 mG r) : WOut t tB a nc V e L mG r := by
  rcases hr with ⟨x, x1, x2, x3, x4⟩ | ⟨nc', V', L', z1, z2, z3, z4, z5, z6, z7, z8, z9, z10, z11⟩
  · exact Or.inl ⟨x, x1, x2, x3, h _ x4⟩
  · exact Or.inr ⟨nc', V', L', z1, z2, z3, z4, z5, z6, z7, z8, z9, z10, h _ z11⟩
section MWHOLE
variable {b : Nat → Nat} {t : Nat} {tB mA : Nat → Int32}
theorem m_isG (h : TapeB b t tB mA) {e : Nat} {mO mF mQ mU : Int32} {mY : Int64} (hT : MTok b t e mO mF mQ mU mY) : (tKd b t e = 2 ∧ tWd b t e = 3 → f_X7_isWord (f_X7_four 103 111 111 100) mQ mY = 1) ∧ (¬ (tKd b t e = 2 ∧ tWd b t e = 3) → f_X7_isWord (f_X7_four 103 111 111 100) mQ mY = 0) :=
  m_isWord h (k := 3) (by omega) hT (code := f_X7_four 103 111 111 100) (by decide +kernel) (by decide +kernel)
theorem m_isO (h : TapeB b t tB mA) {e : Nat} {mO mF mQ mU : Int32} {mY : Int64} (hT : MTok b t e mO mF mQ mU mY) : (tKd b t e = 2 ∧ tWd b t e = 4 → f_X7_isWord (f_X7_five 111 114 100 101 114) mQ mY = 1) ∧ (¬ (tKd b t e = 2 ∧ tWd b t e = 4) → f_X7_isWord (f_X7_five 111 114 100 101 114) mQ mY = 0) :=
  m_isWord h (k := 4) (by omega) hT (code := f_X7_five 111 114 100 101 114) (by decide +kernel) (by decide +kernel)
theorem m_goodsL (h : TapeB b t tB mA) {nc : Nat} (hnc : 1 ≤ nc) (mG : Int32) : ∀ (n a e L : Nat) (V : Nat → Nat) (mR : Nat → Int32) (mO mF mQ mU mP : Int32) (mY : Int64), SOk t a nc V e L → 8 < V 1 + n → (a = 2 ∨ a = 3) → (tKd b t e = 2 → tWd b t e < 5 → mayF (tWd b t e) a → tWd b t e = 3 ∨ tWd b t e = 4) → MTok b t e mO mF mQ mU mY → MRw V mR → mR 0 = nI nc → Comp nc V →
    k_X7_readWhole_L16 mA (nI t) n mR mO mF mQ mU mG mP mY (nI L) ∧ WOut t tB a nc V e L mG (f_X7_readWhole_L16 mA (nI t) n mR mO mF mQ mU mG mP mY (nI L)) := by
  have ht := h.1
  intro n
  induction n with
  | zero =>
    intro a e L V mR mO mF mQ mU mP mY hS h1
    have := hS.1.2.1
    omega
  | succ n ih =>
    intro a e L V mR mO mF mQ mU mP mY hS h1 ha hno hT hM h0 hC
    rw [f_X7_readWhole_L16, k_X7_readWhole_L16]
    obtain ⟨ig1, ig0⟩ := m_isG h hT
    obtain ⟨io1, io0⟩ := m_isO h hT
    by_cases hg : tKd b t e = 2 ∧ tWd b t e = 3
    · have ma : mayF 3 a := by
        rcases ha with q | q
        · exact Or.inr (Or.inr (Or.inl ⟨q, by omega⟩))
        · exact Or.inr (Or.inr (Or.inr (Or.inl ⟨q, Or.inl rfl⟩)))
      rw [ig1 hg, if_neg one0, if_neg one0]
      obtain ⟨k1, r1⟩ := m_good h hS.1 hT hM ma hg mG mP (nI L)
      rcases r1 with ⟨x, x1, x2, x3, x4⟩ | ⟨w, e2, mR', o, f, q, u, y, g1, g2, g3, g4, g5⟩
      · rw [if_pos x2, if_pos x2]
        exact ⟨⟨k1, trivial⟩, Or.inl ⟨x, rfl, x3, x4, rx_fail h hS x1⟩⟩
      · obtain ⟨p1, p2⟩ := rx_step h hS g1 (by omega)
        have ec : nextC nc 3 = nc := rfl
        rw [ec] at p1 p2
        have h8 := hS.1.2.1
        have hn3 := hS.1.1
        have e3 : nextV nc 3 V w = updN (putL V (133 + 4 * V 1) 3 w) 1 (V 1 + 1) := by
          rw [nextV, if_neg (by omega), if_neg (by omega), if_neg (by omega), if_pos rfl]
        have hC' : Comp nc (nextV nc 3 V w) := by
          intro c hc
          rw [e3, updN_ne (by omega), putL_out (by omega), updN_ne (by omega), putL_out (by omega)]; exact hC c hc
        have v1 : nextV nc 3 V w 1 = V 1 + 1 := by rw [e3, updN_eq]
        rw [g2]
        simp only [if_neg one0, nI_1]
        obtain ⟨q1, q2⟩ := ih 3 e2 (L + 1) (nextV nc 3 V w) mR' o f q u mP y p2 (by rw [v1]; omega) (Or.inr rfl) (fun _ _ p3 => by rcases p3 with q' | q' | q' | q' | q' <;> omega) g3 g4 (g5.trans h0) hC'
        exact ⟨⟨k1, q1⟩, w_lift p1 q2⟩
    · rw [ig0 hg, if_pos rfl, if_pos rfl]
      by_cases hw : tKd b t e = 2 ∧ tWd b t e = 4
      · have ma : mayF 4 a := by
          rcases ha with q | q
          · exact Or.inr (Or.inr (Or.inl ⟨q, by omega⟩))
          · exact Or.inr (Or.inr (Or.inr (Or.inl ⟨q, Or.inr rfl⟩)))
        rw [io1 hw, if_neg one0, if_neg one0]
        obtain ⟨t1, t2, t3, t4, t5, t6⟩ := hT
        obtain ⟨s1', s2', s3', _⟩ := tok_facts h t1
        obtain ⟨_, _, _, s7, s8⟩ := s3' (by omega)
        have ok : tKd b t e = 2 ∧ tWd b t e < 5 ∧ mayF (tWd b t e) a := ⟨hw.1, by omega, by rw [hw.2]; exact ma⟩
        have nf : ¬ fullL nc V 4 := by rintro (⟨q, _⟩ | ⟨q, q2⟩ | ⟨q, q2⟩ | ⟨q, q2⟩) <;> omega
        have nf' : ¬ fullL nc V (tWd b t e) := by rw [hw.2]; exact nf
        have eo := (t4 hw.1).1
        obtain ⟨g1, T0⟩ := m_tok h s8 mU mY
        rw [eo]
        generalize f_X7_go mA (nI t) (nI (tEn b t e)) mU mY = G at T0 ⊢
        have rdeq : rdN b t (loN V (nc - 1) (tWd b t e)) (hiN V (nc - 1) (tWd b t e)) (cntL (tWd b t e)) 0 (fun _ => 0) (tEn b t e) = rdN b t (loN V (nc - 1) 4) (hiN V (nc - 1) 4) (1 + 1) 0 (fun _ => 0) (tEn b t e) := by rw [hw.2]; rfl
        have M0 : MRw (putL V 2 0 (fun _ => 0)) mR := by rw [putL_0]; exact hM
        obtain ⟨n0, p0⟩ := m_num h (n := 1) (LO := loN V (nc - 1) 4) (HI := hiN V (nc - 1) 4) (lo := 0) (hi := 3) T0 M0 (by omega) (by omega) (by omega) (by omega) (idx := 2) (x2 := 0) (x3 := 3) rfl rfl rfl (lo_plain (by omega) (by omega)).1 (lo_plain (by omega) (by omega)).2 mG mP
        rcases p0 with ⟨R1, o1, f1, q1, u1, y1, a0, T1, M1, Z1, D0⟩ | ⟨x, o, f, q, u, y, a0, D0⟩
        · rw [a0]
          simp only [if_neg one0]
          rw [f_X7_readWhole_L83, k_X7_readWhole_L83]
          obtain ⟨n1, p1⟩ := m_num h (n := 0) (LO := loN V (nc - 1) 4) (HI := hiN V (nc - 1) 4) (lo := 0) (hi := 99) T1 M1 (by omega) (by omega) (by omega) (by omega) (idx := 3) (x2 := 0) (x3 := 99) rfl rfl rfl (lo_plain (by omega) (by omega)).1 (lo_plain (by omega) (by omega)).2 mG mP
          rcases p1 with ⟨R2, o2, f2, q2, u2, y2, a1, T2, M2, Z2, D1⟩ | ⟨x, o, f, q, u, y, a1, D1⟩
          · rw [a1]
            simp only [if_neg one0]
            have dd := rdeq.trans (D0.trans D1)
            rw [rdN] at dd
            obtain ⟨w', e', dd, MM, TT⟩ : ∃ (w' : Nat → Nat) (e' : Nat), rdN b t (loN V (nc - 1) (tWd b t e)) (hiN V (nc - 1) (tWd b t e)) (cntL (tWd b t e)) 0 (fun _ => 0) (tEn b t e) = .inr (w', e') ∧ MRw (putL V 2 2 w') R2 ∧ MTok b t e' o2 f2 q2 u2 y2 := ⟨_, _, dd, M2, T2⟩
            obtain ⟨s1, s2⟩ := m_sign h TT mG mP (nI L)
            rcases s2 with ⟨z1, o, f, q, u, y, z2, z3⟩ | ⟨z1, o, f, q, u, y, z2⟩
            · rw [z2]
              simp only [if_neg one0]
              rw [f_X7_readWhole_L101, k_X7_readWhole_L101]
              have dd4 := dd
              rw [hw.2] at dd4
              have hgd : LGood b t a nc V e 4 w' (tEn b t e') := ⟨⟨hw.1, hw.2, by omega, ma⟩, nf, e', dd4, z1, rfl⟩
              obtain ⟨sv, se, sl, sp, sa, s4'⟩ := hS
              obtain ⟨_, r2, _, r4⟩ := rdN_ok h _ _ _ _ w' e' s8 dd4
              obtain ⟨zt1, zt2, zt3, _⟩ := z3
              have hk := tKd_le (b := b) (t := t) (e := tEn b t e')
              have l0 : w' 0 ≤ 3 := by
                have := (r4 0 (by omega) (by decide)).2
                rw [(lo_plain (V := V) (c := nc - 1) (l := 4) (i := 0) (by omega) (by omega)).2] at this
                exact this
              have l1 : w' 1 ≤ 99 := by
                have := (r4 1 (by omega) (by decide)).2
                rw [(lo_plain (V := V) (c := nc - 1) (l := 4) (i := 1) (by omega) (by omega)).2] at this
                exact this
              by_cases hend : tKd b t (tEn b t e') = 0
              · have g0 : q = (0 : Int32) := by rw [zt3, hend]; rfl
                rw [if_pos g0, if_pos g0]
                have hn3 := sv.1
                refine ⟨⟨g1, n0, n1, s1, trivial⟩, Or.inr ⟨nc, nextV nc 4 V w', L + 1, rfl, rfl, nI_1 L, ?_, ?_, ?_, ?_, hnc, ?_, ?_, ?_⟩⟩
                · rw [nv4]; exact MM
                · show R2 0 = nI nc
                  rw [Z2, Z1]; exact h0
                · rw [nv4]; exact v_4 sv
                · intro c hc
                  rw [nv4, putL_out (by omega), putL_out (by omega)]; exact hC c hc
                · rw [nv4_2]; exact l0
                · rw [nv4_3]; exact l1
                · exact ⟨1, by omega, ru_done h sv sa s4' sp se (by omega) hgd hend⟩
              · have g0 : ¬ q = (0 : Int32) := by rw [zt3]; exact nI_ne (b := 0) (by omega) (by omega) hend
                rw [if_neg g0, if_neg g0, m_bad1]
                simp only [if_true, f_X7_readWhole_L120, k_X7_readWhole_L120]
                exact ⟨⟨g1, n0, n1, s1, trivial⟩, Or.inl ⟨(1, tSt b t (tEn b t e')), rfl, rfl, zt2, 2, by omega, ru_bad h sv sa s4' sp se (by omega) hgd hend⟩⟩
            · rw [z2]
              simp only [if_true, f_X7_readWhole_L120, k_X7_readWhole_L120]
              exact ⟨⟨g1, n0, n1, s1, trivial⟩, Or.inl ⟨(1, tSt b t e'), rfl, rfl, rfl, rx_fail h hS (Or.inr (Or.inr (Or.inr ⟨ok, nf', w', e', dd, z1, rfl⟩)))⟩⟩
          · rw [a1]
            simp only [if_true, f_X7_readWhole_L120, k_X7_readWhole_L120]
            exact ⟨⟨g1, n0, n1, trivial⟩, Or.inl ⟨x, rfl, rfl, rfl, rx_fail h hS (Or.inr (Or.inr (Or.inl ⟨ok, nf', rdeq.trans (D0.trans D1)⟩)))⟩⟩
        · rw [a0]
          simp only [if_true, f_X7_readWhole_L120, k_X7_readWhole_L120]
          exact ⟨⟨g1, n0, trivial⟩, Or.inl ⟨x, rfl, rfl, rfl, rx_fail h hS (Or.inr (Or.inr (Or.inl ⟨ok, nf', rdeq.trans D0⟩)))⟩⟩
      · rw [io0 hw, if_pos rfl, if_pos rfl, m_bad1]
        refine ⟨⟨Or.inl rfl, trivial⟩, Or.inl ⟨(1, tSt b t e), rfl, rfl, hT.2.1, rx_fail h hS (Or.inl ⟨?_, rfl⟩)⟩⟩
        rintro ⟨p1, p2, p3⟩
        rcases hno p1 p2 p3 with q | q
        · exact hg ⟨p1, q⟩
        · exact hw ⟨p1, q⟩
theorem m_wholeL (h : TapeB b t tB mA) (mG : Int32) : ∀ (n a nc e L : Nat) (V : Nat → Nat) (mR : Nat → Int32) (mO mF mQ mU mP : Int32) (mY : Int64), SOk t a nc V e L → 3 < nc + n → ((a = 5) ∨ (a = 2 ∧ tKd b t e = 2 ∧ tWd b t e = 0)) → MTok b t e mO mF mQ mU mY → MRw V mR → mR 0 = nI nc → Comp nc V →
    k_X7_readWhole_L0 mA (nI t) n mR mO mF mQ mU mG mP mY (nI L) ∧ WOut t tB a nc V e L mG (f_X7_readWhole_L0 mA (nI t) n mR mO mF mQ mU mG mP mY (nI L)) := by
  intro n
  induction n with
  | zero =>
    intro a nc e L V mR mO mF mQ mU mP mY hS h1
    have := hS.1.1
    omega
  | succ n ih =>
    intro a nc e L V mR mO mF mQ mU mP mY hS h1 ha hT hM h0 hC
    obtain ⟨k1, r1⟩ := m_carrier h hS ha hT hM h0 hC mG mP
    rw [f_X7_readWhole_L0, k_X7_readWhole_L0]
    rcases r1 with ⟨x, x1, x2, x3, x4⟩ | ⟨V', e', L', mR', o, f, q, u, y, z1, z2, z3, z4, z5, z6, z7, z8⟩
    · rw [if_pos x1, if_pos x1]
      exact ⟨⟨k1, trivial⟩, Or.inl ⟨x, rfl, x2, x3, x4⟩⟩
    · rw [z1]
      simp only [if_neg one0]
      obtain ⟨i1, i0, ik⟩ := m_isC h z2
      by_cases hc : tKd b t e' = 2 ∧ tWd b t e' = 0
      · rw [i1 hc, if_neg one0, if_neg one0]
        obtain ⟨q1, q2⟩ := ih 2 (nc + 1) e' L' V' mR' o f q u mP y z5 (by omega) (Or.inr ⟨rfl, hc⟩) z2 z3 z4 z6
        exact ⟨⟨k1, ik, q1⟩, w_lift z8 q2⟩
      · rw [i0 hc, if_pos rfl, if_pos rfl]
        obtain ⟨q1, q2⟩ := m_goodsL h (nc := nc + 1) (by omega) mG FU 2 e' L' V' mR' o f q u mP y z5 (by have := FU_big (n := 8) (by omega); omega) (Or.inl rfl) (by
          intro p1 p2 p3
          have c0 : ¬ tWd b t e' = 0 := fun q => hc ⟨p1, q⟩
          have c2 : ¬ tWd b t e' = 2 := fun q => z7 ⟨p1, q⟩
          rcases p3 with q' | q' | q' | q' | q' <;> omega) z2 z3 z4 z6
        exact ⟨⟨k1, ik, q1⟩, w_lift z8 q2⟩
end MWHOLE
