/-! PURE, 41: the model's lines of breaks and of zones -/
abbrev MdT : Type := Int32 × (Nat → Int32) × Int32 × Int32 × Int32 × Int32 × Int32 × Int32 × Int64 × Int32
def LRes (b : Nat → Nat) (t a nc : Nat) (V : Nat → Nat) (e l : Nat) (r0 mG mP mL : Int32) (r : MdT) : Prop :=
  (∃ x : Nat × Nat, LFail b t a nc V e x ∧ r.1 = 0 ∧ r.2.2.2.2.2.2.1 = nI x.1 ∧ r.2.2.2.2.2.2.2.1 = nI x.2) ∨
  (∃ (w : Nat → Nat) (e2 : Nat) (mR' : Nat → Int32) (o f q u : Int32) (y : Int64), LGood b t a nc V e l w e2 ∧ r = (1, mR', o, f, q, u, mG, mP, y, mL + 1) ∧ MTok b t e2 o f q u y ∧ MRw (nextV nc l V w) mR' ∧ mR' 0 = r0)
section MLINE
variable {b : Nat → Nat} {t : Nat} {tB mA mR : Nat → Int32} {V : Nat → Nat} {mO mF mQ mU : Int32} {mY : Int64}
theorem m_break (h : TapeB b t tB mA) {m a e : Nat} (hV : VOk (m + 1) V) (hT : MTok b t e mO mF mQ mU mY) (hM : MRw V mR) (ha : mayF 1 a) (hW : tKd b t e = 2 → tWd b t e < 5 → mayF (tWd b t e) a → tWd b t e = 1) (mG mP mL : Int32) :
    k_X7_readBreak (nI (4 + 43 * m)) mA mR (nI t) mO mF mQ mU mG mP mY mL ∧ LRes b t a (m + 1) V e 1 (mR 0) mG mP mL (f_X7_readBreak (nI (4 + 43 * m)) mA mR (nI t) mO mF mQ mU mG mP mY mL) := by
  have hm3 : m < 3 := by have := hV.1; omega
  have hcb := hV.2.2.1 m hm3
  obtain ⟨i1, i0⟩ := m_isWord h (k := 1) (by omega) hT (code := f_X7_five 98 114 101 97 107) (by decide +kernel) (by decide +kernel)
  have kw : k_X7_isBreakWord mQ mY := by
    by_cases hw : tKd b t e = 2 ∧ tWd b t e = 1
    · exact ⟨Or.inr (i1 hw), trivial⟩
    · exact ⟨Or.inl (i0 hw), trivial⟩
  by_cases hw : tKd b t e = 2 ∧ tWd b t e = 1
  · have w1 : f_X7_isBreakWord mQ mY = 1 := i1 hw
    obtain ⟨t1, t2, t3, t4, t5, t6⟩ := hT
    obtain ⟨s1, s2, s3, _⟩ := tok_facts h t1
    obtain ⟨_, _, _, s7, s8⟩ := s3 (by omega)
    have ok : tKd b t e = 2 ∧ tWd b t e < 5 ∧ mayF (tWd b t e) a := ⟨hw.1, by omega, by rw [hw.2]; exact ha⟩
    have eo := (t4 hw.1).1
    have e6 : nI (4 + 43 * m) + 6 = nI (10 + 43 * m) := by rw [lit 6, nI_add]; congr 1; omega
    have em : mR (10 + 43 * m) = nI (V (10 + 43 * m)) := hM _ (by omega) (by omega)
    have v6 : vp_in (nI (10 + 43 * m)) 181 := vp_in_nI (by omega) (by omega)
    rw [f_X7_readBreak, k_X7_readBreak, w1, if_neg one0, if_neg one0, e6, cl (show 10 + 43 * m < 2 ^ 31 by omega), em]
    by_cases hf : V (10 + 43 * m) = 5
    · have gf : nI (V (10 + 43 * m)) = (5 : Int32) := by rw [hf]; rfl
      have gb : f_X7_bad 3 mF mQ = (0, 3, mF) := by rw [f_X7_bad, t3, hw.1, if_neg (by decide)]
      rw [if_pos gf, if_pos gf, gb]
      refine ⟨⟨kw, v6, Or.inl rfl, trivial⟩, Or.inl ⟨(3, tSt b t e), Or.inr (Or.inl ⟨ok, ?_, rfl⟩), rfl, rfl, t2⟩⟩
      rw [hw.2]; exact Or.inr (Or.inl ⟨rfl, hf⟩)
    · have gf : ¬ nI (V (10 + 43 * m)) = (5 : Int32) := nI_ne (b := 5) (by omega) (by omega) hf
      have nf : ¬ fullL (m + 1) V 1 := by
        rintro (⟨q, _⟩ | ⟨q, q2⟩ | ⟨q, q2⟩ | ⟨q, _⟩)
        · omega
        · rw [Nat.add_sub_cancel] at q2; omega
        · rw [Nat.add_sub_cancel] at q2; omega
        · omega
      have nf' : ¬ fullL (m + 1) V (tWd b t e) := by rw [hw.2]; exact nf
      obtain ⟨g1, g2⟩ := m_tok h s8 mU mY
      rw [if_neg gf, if_neg gf, eo]
      generalize f_X7_go mA (nI t) (nI (tEn b t e)) mU mY = G at g2 ⊢
      have eb : (nI (4 + 43 * m) + 7) + 4 * nI (V (10 + 43 * m)) = nI (11 + 43 * m + 4 * V (10 + 43 * m)) := by rw [lit 7, lit 4, nI_add, nI_mul, nI_add]; congr 1; omega
      have hM0 : MRw (putL V (11 + 43 * m + 4 * V (10 + 43 * m)) 0 (fun _ => 0)) mR := by rw [putL_0]; exact hM
      have hz : ∀ z : Nat, 1 ≤ z → z < 4 → loN V m 1 z = 0 ∧ hiN V m 1 z = 999 := by
        intro z z1 z2
        rw [loN, hiN, if_neg (by omega), if_neg (by omega), if_neg (by omega)]
        rcases (show z = 1 ∨ z = 2 ∨ z = 3 by omega) with rfl | rfl | rfl <;> exact ⟨rfl, rfl⟩
      have hlo : loN V m 1 0 ≤ 1000 ∧ hiN V m 1 0 ≤ 1000 := by
        rw [loN, hiN]
        by_cases n0 : V (10 + 43 * m) = 0
        · rw [if_neg (by omega), if_neg (by omega)]
          exact (by rw [if_neg (by omega)]; decide)
        · have hr := (hV.2.2.2.2.1 m (V (10 + 43 * m) - 1) (by omega) (by omega)).1
          rw [if_pos ⟨rfl, rfl, n0⟩, if_neg (by omega)]
          exact ⟨by omega, by decide⟩
      have env : ∀ w : Nat → Nat, nextV (m + 1) 1 V w = updN (putL V (11 + 43 * m + 4 * V (10 + 43 * m)) 4 w) (10 + 43 * m) (V (10 + 43 * m) + 1) := by
        intro w
        rw [nextV, if_neg (by omega), if_pos rfl, Nat.add_sub_cancel]
      have fin : ∀ x2 x3 : Int32, x2 = nI (loN V m 1 0) → x3 = nI (hiN V m 1 0) →
          (k_X7_told (nI (11 + 43 * m + 4 * V (10 + 43 * m))) x2 x3 mA (nI t) G.1 G.2.1 G.2.2.1 G.2.2.2.1 ∧ (if (f_X7_told (nI (11 + 43 * m + 4 * V (10 + 43 * m))) x2 x3 mA mR (nI t) G.1 G.2.1 G.2.2.1 G.2.2.2.1 mG mP G.2.2.2.2).1 = 0 then True else k_X7_readBreak_L77 (nI (4 + 43 * m)) mA (nI t) mL (nI (11 + 43 * m + 4 * V (10 + 43 * m))) (f_X7_told (nI (11 + 43 * m + 4 * V (10 + 43 * m))) x2 x3 mA mR (nI t) G.1 G.2.1 G.2.2.1 G.2.2.2.1 mG mP G.2.2.2.2).2.1 (f_X7_told (nI (11 + 43 * m + 4 * V (10 + 43 * m))) x2 x3 mA mR (nI t) G.1 G.2.1 G.2.2.1 G.2.2.2.1 mG mP G.2.2.2.2).2.2.1 (f_X7_told (nI (11 + 43 * m + 4 * V (10 + 43 * m))) x2 x3 mA mR (nI t) G.1 G.2.1 G.2.2.1 G.2.2.2.1 mG mP G.2.2.2.2).2.2.2.1 (f_X7_told (nI (11 + 43 * m + 4 * V (10 + 43 * m))) x2 x3 mA mR (nI t) G.1 G.2.1 G.2.2.1 G.2.2.2.1 mG mP G.2.2.2.2).2.2.2.2.1 (f_X7_told (nI (11 + 43 * m + 4 * V (10 + 43 * m))) x2 x3 mA mR (nI t) G.1 G.2.1 G.2.2.1 G.2.2.2.1 mG mP G.2.2.2.2).2.2.2.2.2.1 (f_X7_told (nI (11 + 43 * m + 4 * V (10 + 43 * m))) x2 x3 mA mR (nI t) G.1 G.2.1 G.2.2.1 G.2.2.2.1 mG mP G.2.2.2.2).2.2.2.2.2.2.1 (f_X7_told (nI (11 + 43 * m + 4 * V (10 + 43 * m))) x2 x3 mA mR (nI t) G.1 G.2.1 G.2.2.1 G.2.2.2.1 mG mP G.2.2.2.2).2.2.2.2.2.2.2.1 (f_X7_told (nI (11 + 43 * m + 4 * V (10 + 43 * m))) x2 x3 mA mR (nI t) G.1 G.2.1 G.2.2.1 G.2.2.2.1 mG mP G.2.2.2.2).2.2.2.2.2.2.2.2)) ∧
          LRes b t a (m + 1) V e 1 (mR 0) mG mP mL (if (f_X7_told (nI (11 + 43 * m + 4 * V (10 + 43 * m))) x2 x3 mA mR (nI t) G.1 G.2.1 G.2.2.1 G.2.2.2.1 mG mP G.2.2.2.2).1 = 0 then f_X7_readBreak_L75 mL (f_X7_told (nI (11 + 43 * m + 4 * V (10 + 43 * m))) x2 x3 mA mR (nI t) G.1 G.2.1 G.2.2.1 G.2.2.2.1 mG mP G.2.2.2.2).2.1 (f_X7_told (nI (11 + 43 * m + 4 * V (10 + 43 * m))) x2 x3 mA mR (nI t) G.1 G.2.1 G.2.2.1 G.2.2.2.1 mG mP G.2.2.2.2).2.2.1 (f_X7_told (nI (11 + 43 * m + 4 * V (10 + 43 * m))) x2 x3 mA mR (nI t) G.1 G.2.1 G.2.2.1 G.2.2.2.1 mG mP G.2.2.2.2).2.2.2.1 (f_X7_told (nI (11 + 43 * m + 4 * V (10 + 43 * m))) x2 x3 mA mR (nI t) G.1 G.2.1 G.2.2.1 G.2.2.2.1 mG mP G.2.2.2.2).2.2.2.2.1 (f_X7_told (nI (11 + 43 * m + 4 * V (10 + 43 * m))) x2 x3 mA mR (nI t) G.1 G.2.1 G.2.2.1 G.2.2.2.1 mG mP G.2.2.2.2).2.2.2.2.2.1 (f_X7_told (nI (11 + 43 * m + 4 * V (10 + 43 * m))) x2 x3 mA mR (nI t) G.1 G.2.1 G.2.2.1 G.2.2.2.1 mG mP G.2.2.2.2).2.2.2.2.2.2.1 (f_X7_told (nI (11 + 43 * m + 4 * V (10 + 43 * m))) x2 x3 mA mR (nI t) G.1 G.2.1 G.2.2.1 G.2.2.2.1 mG mP G.2.2.2.2).2.2.2.2.2.2.2.1 (f_X7_told (nI (11 + 43 * m + 4 * V (10 + 43 * m))) x2 x3 mA mR (nI t) G.1 G.2.1 G.2.2.1 G.2.2.2.1 mG mP G.2.2.2.2).2.2.2.2.2.2.2.2 else f_X7_readBreak_L77 (nI (4 + 43 * m)) mA (nI t) mL (nI (11 + 43 * m + 4 * V (10 + 43 * m))) (f_X7_told (nI (11 + 43 * m + 4 * V (10 + 43 * m))) x2 x3 mA mR (nI t) G.1 G.2.1 G.2.2.1 G.2.2.2.1 mG mP G.2.2.2.2).2.1 (f_X7_told (nI (11 + 43 * m + 4 * V (10 + 43 * m))) x2 x3 mA mR (nI t) G.1 G.2.1 G.2.2.1 G.2.2.2.1 mG mP G.2.2.2.2).2.2.1 (f_X7_told (nI (11 + 43 * m + 4 * V (10 + 43 * m))) x2 x3 mA mR (nI t) G.1 G.2.1 G.2.2.1 G.2.2.2.1 mG mP G.2.2.2.2).2.2.2.1 (f_X7_told (nI (11 + 43 * m + 4 * V (10 + 43 * m))) x2 x3 mA mR (nI t) G.1 G.2.1 G.2.2.1 G.2.2.2.1 mG mP G.2.2.2.2).2.2.2.2.1 (f_X7_told (nI (11 + 43 * m + 4 * V (10 + 43 * m))) x2 x3 mA mR (nI t) G.1 G.2.1 G.2.2.1 G.2.2.2.1 mG mP G.2.2.2.2).2.2.2.2.2.1 (f_X7_told (nI (11 + 43 * m + 4 * V (10 + 43 * m))) x2 x3 mA mR (nI t) G.1 G.2.1 G.2.2.1 G.2.2.2.1 mG mP G.2.2.2.2).2.2.2.2.2.2.1 (f_X7_told (nI (11 + 43 * m + 4 * V (10 + 43 * m))) x2 x3 mA mR (nI t) G.1 G.2.1 G.2.2.1 G.2.2.2.1 mG mP G.2.2.2.2).2.2.2.2.2.2.2.1 (f_X7_told (nI (11 + 43 * m + 4 * V (10 + 43 * m))) x2 x3 mA mR (nI t) G.1 G.2.1 G.2.2.1 G.2.2.2.1 mG mP G.2.2.2.2).2.2.2.2.2.2.2.2) := by
        intro x2 x3 hx2 hx3
        obtain ⟨n1, n2⟩ := m_num h (n := 3) (LO := loN V m 1) (HI := hiN V m 1) g2 hM0 (by omega) (by omega) hlo.1 hlo.2 rfl hx2 hx3 rfl rfl mG mP
        rw [Nat.add_zero] at n1 n2
        rcases n2 with ⟨mR', o, f, q, u, y, q1, q2, q3, q4, q5⟩ | ⟨x, o, f, q, u, y, q1, q2⟩
        · have rdeq : rdN b t (loN V (m + 1 - 1) (tWd b t e)) (hiN V (m + 1 - 1) (tWd b t e)) (cntL (tWd b t e)) 0 (fun _ => 0) (tEn b t e) = rdN b t (loN V m 1) (hiN V m 1) 3 1 (updN (fun _ => 0) 0 (tNm b t (tEn b t e))) (tEn b t (tEn b t e)) := by
            rw [hw.2, Nat.add_sub_cancel]; exact q5
          rw [q1]
          simp only [if_neg one0, f_X7_readBreak_L77, k_X7_readBreak_L77]
          obtain ⟨r1, r2⟩ := m_brkL (V := V) h hm3 (base := 11 + 43 * m + 4 * V (10 + 43 * m)) (by omega) (by omega) hz mG mP mL 3 1 FU _ _ mR' o f q u y (by omega) (by omega) (FU_big (by omega)) q2 q3
          cases hrd : rdN b t (loN V m 1) (hiN V m 1) 3 1 (updN (fun _ => 0) 0 (tNm b t (tEn b t e))) (tEn b t (tEn b t e)) with
          | inl x =>
            obtain ⟨y1, mR2, o2, f2, q2', u2, y2, y3⟩ := r1 x hrd
            have y3' : f_X7_readBreak_L80 (nI (4 + 43 * m)) mA (nI t) mL FU (nI (11 + 43 * m + 4 * V (10 + 43 * m))) 1 mR' o f q u mG mP y = _ := y3
            rw [y3']
            exact ⟨⟨n1, y1⟩, Or.inl ⟨x, Or.inr (Or.inr (Or.inl ⟨ok, nf', rdeq.trans hrd⟩)), rfl, rfl, rfl⟩⟩
          | inr we =>
            obtain ⟨w', e'⟩ := we
            obtain ⟨y1, y2⟩ := r2 w' e' hrd
            rcases y2 with ⟨z1, mR2, o2, f2, q2', u2, y2, z2⟩ | ⟨z1, mR2, o2, f2, q2', u2, y2, z2, z3, z4, mR3, z5, z6⟩
            · have z2' : f_X7_readBreak_L80 (nI (4 + 43 * m)) mA (nI t) mL FU (nI (11 + 43 * m + 4 * V (10 + 43 * m))) 1 mR' o f q u mG mP y = _ := z2
              rw [z2']
              exact ⟨⟨n1, y1⟩, Or.inl ⟨(1, tSt b t e'), Or.inr (Or.inr (Or.inr ⟨ok, nf', w', e', rdeq.trans hrd, z1, rfl⟩)), rfl, rfl, rfl⟩⟩
            · have z2' : f_X7_readBreak_L80 (nI (4 + 43 * m)) mA (nI t) mL FU (nI (11 + 43 * m + 4 * V (10 + 43 * m))) 1 mR' o f q u mG mP y = _ := z2
              rw [z2']
              refine ⟨⟨n1, y1⟩, Or.inr ⟨w', tEn b t e', mR2, o2, f2, q2', u2, y2, ⟨⟨hw.1, hw.2, by omega, ha⟩, nf, e', ?_, z1, rfl⟩, rfl, z3, ?_, z4.trans q4⟩⟩
              · rw [hw.2] at rdeq; exact rdeq.trans hrd
              · rw [env, z6]
                have e3 : mR3 (10 + 43 * m) = nI (V (10 + 43 * m)) := by rw [z5 _ (by omega) (by omega), putL_out (by omega)]
                rw [e3]
                intro j j1 j2
                by_cases hj : j = 10 + 43 * m
                · subst hj; rw [upd_eq, updN_eq]; exact nI_1 _
                · rw [upd_ne hj, updN_ne hj]; exact z5 j j1 j2
        · rw [q1]
          simp only [if_true, f_X7_readBreak_L75]
          refine ⟨⟨n1, trivial⟩, Or.inl ⟨x, Or.inr (Or.inr (Or.inl ⟨ok, nf', ?_⟩)), rfl, rfl, rfl⟩⟩
          rw [hw.2, Nat.add_sub_cancel]; exact q2
      rw [eb]
      by_cases n0 : V (10 + 43 * m) = 0
      · have g0 : nI (V (10 + 43 * m)) = (0 : Int32) := by rw [n0]; rfl
        obtain ⟨f1, f2⟩ := fin 1 99 (by rw [loN, if_neg (by omega), if_neg (by omega)]; rfl) (by rw [hiN, if_neg (by omega)]; rfl)
        simp only [if_pos g0]
        exact ⟨⟨kw, v6, g1, f1⟩, f2⟩
      · have g0 : ¬ nI (V (10 + 43 * m)) = (0 : Int32) := nI_ne0 (by omega) (by omega)
        have es : nI (11 + 43 * m + 4 * V (10 + 43 * m)) - 4 = nI (11 + 43 * m + 4 * (V (10 + 43 * m) - 1)) := by rw [lit 4, nI_sub (by omega)]; congr 1; omega
        have em2 : mR (11 + 43 * m + 4 * (V (10 + 43 * m) - 1)) = nI (V (11 + 43 * m + 4 * (V (10 + 43 * m) - 1))) := hM _ (by omega) (by omega)
        have v7 : vp_in (nI (11 + 43 * m + 4 * (V (10 + 43 * m) - 1))) 181 := vp_in_nI (by omega) (by omega)
        obtain ⟨f1, f2⟩ := fin (nI (V (11 + 43 * m + 4 * (V (10 + 43 * m) - 1))) + 1) 99 (by rw [loN, if_pos ⟨rfl, rfl, n0⟩, nI_1]) (by rw [hiN, if_neg (by omega)]; rfl)
        simp only [if_neg g0]
        rw [es, cl (show 11 + 43 * m + 4 * (V (10 + 43 * m) - 1) < 2 ^ 31 by omega), em2]
        exact ⟨⟨kw, v6, g1, v7, f1⟩, f2⟩
  · have w0 : f_X7_isBreakWord mQ mY = 0 := i0 hw
    obtain ⟨t1, t2, t3, t4, t5, t6⟩ := hT
    rw [f_X7_readBreak, k_X7_readBreak, w0, if_pos rfl, if_pos rfl, m_bad1]
    refine ⟨⟨kw, Or.inl rfl, trivial⟩, Or.inl ⟨(1, tSt b t e), Or.inl ⟨fun q => hw ⟨q.1, hW q.1 q.2.1 q.2.2⟩, rfl⟩, rfl, rfl, t2⟩⟩
theorem m_zones (h : TapeB b t tB mA) {m a e : Nat} (hV : VOk (m + 1) V) (hT : MTok b t e mO mF mQ mU mY) (hM : MRw V mR) (ha : mayF 2 a) (hW : tKd b t e = 2 → tWd b t e < 5 → mayF (tWd b t e) a → tWd b t e = 2) (mG mP mL : Int32) :
    k_X7_readZones (nI (4 + 43 * m)) mA mR (nI t) mO mF mQ mU mG mP mY mL ∧ LRes b t a (m + 1) V e 2 (mR 0) mG mP mL (f_X7_readZones (nI (4 + 43 * m)) mA mR (nI t) mO mF mQ mU mG mP mY mL) := by
  have hm3 : m < 3 := by have := hV.1; omega
  have hcb := hV.2.2.1 m hm3
  obtain ⟨i1, i0⟩ := m_isWord h (k := 2) (by omega) hT (code := f_X7_five 122 111 110 101 115) (by decide +kernel) (by decide +kernel)
  have kw : k_X7_isZonesWord mQ mY := by
    by_cases hw : tKd b t e = 2 ∧ tWd b t e = 2
    · exact ⟨Or.inr (i1 hw), trivial⟩
    · exact ⟨Or.inl (i0 hw), trivial⟩
  by_cases hw : tKd b t e = 2 ∧ tWd b t e = 2
  · have w1 : f_X7_isZonesWord mQ mY = 1 := i1 hw
    obtain ⟨t1, t2, t3, t4, t5, t6⟩ := hT
    obtain ⟨s1, s2, s3, _⟩ := tok_facts h t1
    obtain ⟨_, _, _, s7, s8⟩ := s3 (by omega)
    have ok : tKd b t e = 2 ∧ tWd b t e < 5 ∧ mayF (tWd b t e) a := ⟨hw.1, by omega, by rw [hw.2]; exact ha⟩
    have eo := (t4 hw.1).1
    have e6 : nI (4 + 43 * m) + 27 = nI (31 + 43 * m) := by rw [lit 27, nI_add]; congr 1; omega
    have em : mR (31 + 43 * m) = nI (V (31 + 43 * m)) := hM _ (by omega) (by omega)
    have v6 : vp_in (nI (31 + 43 * m)) 181 := vp_in_nI (by omega) (by omega)
    rw [f_X7_readZones, k_X7_readZones, w1, if_neg one0, if_neg one0, e6, cl (show 31 + 43 * m < 2 ^ 31 by omega), em]
    by_cases hf : V (31 + 43 * m) = 3
    · have gf : nI (V (31 + 43 * m)) = (3 : Int32) := by rw [hf]; rfl
      have gb : f_X7_bad 3 mF mQ = (0, 3, mF) := by rw [f_X7_bad, t3, hw.1, if_neg (by decide)]
      rw [if_pos gf, if_pos gf, gb]
      refine ⟨⟨kw, v6, Or.inl rfl, trivial⟩, Or.inl ⟨(3, tSt b t e), Or.inr (Or.inl ⟨ok, ?_, rfl⟩), rfl, rfl, t2⟩⟩
      rw [hw.2]; exact Or.inr (Or.inr (Or.inl ⟨rfl, hf⟩))
    · have gf : ¬ nI (V (31 + 43 * m)) = (3 : Int32) := nI_ne (b := 3) (by omega) (by omega) hf
      have nf : ¬ fullL (m + 1) V 2 := by
        rintro (⟨q, _⟩ | ⟨q, q2⟩ | ⟨q, q2⟩ | ⟨q, _⟩)
        · omega
        · rw [Nat.add_sub_cancel] at q2; omega
        · rw [Nat.add_sub_cancel] at q2; omega
        · omega
      have nf' : ¬ fullL (m + 1) V (tWd b t e) := by rw [hw.2]; exact nf
      obtain ⟨g1, g2⟩ := m_tok h s8 mU mY
      rw [if_neg gf, if_neg gf, eo]
      generalize f_X7_go mA (nI t) (nI (tEn b t e)) mU mY = G at g2 ⊢
      have eb : (nI (4 + 43 * m) + 28) + 5 * nI (V (31 + 43 * m)) = nI (32 + 43 * m + 5 * V (31 + 43 * m)) := by rw [lit 28, lit 5, nI_add, nI_mul, nI_add]; congr 1; omega
      have hM0 : MRw (putL V (32 + 43 * m + 5 * V (31 + 43 * m)) 0 (fun _ => 0)) mR := by rw [putL_0]; exact hM
      have hz : ∀ z : Nat, 1 ≤ z → z < 5 → loN V m 2 z = 0 ∧ hiN V m 2 z = 3 := by
        intro z z1 z2
        rw [loN, hiN, if_neg (by omega), if_neg (by omega), if_neg (by omega)]
        rcases (show z = 1 ∨ z = 2 ∨ z = 3 ∨ z = 4 by omega) with rfl | rfl | rfl | rfl <;> exact ⟨rfl, rfl⟩
      have hlo : loN V m 2 0 ≤ 1000 ∧ hiN V m 2 0 ≤ 1000 := by
        rw [loN, hiN]
        by_cases n0 : V (31 + 43 * m) = 0
        · rw [if_neg (by omega), if_neg (by omega)]
          exact (by rw [if_pos ⟨rfl, rfl, n0⟩]; decide)
        · have hr := (hV.2.2.2.2.2.1 m (V (31 + 43 * m) - 1) (by omega) (by omega)).1
          rw [if_neg (by omega), if_pos ⟨rfl, rfl, n0⟩, if_neg (by omega)]
          exact ⟨by omega, by decide⟩
      have env : ∀ w : Nat → Nat, nextV (m + 1) 2 V w = updN (putL V (32 + 43 * m + 5 * V (31 + 43 * m)) 5 w) (31 + 43 * m) (V (31 + 43 * m) + 1) := by
        intro w
        rw [nextV, if_neg (by omega), if_neg (by omega), if_pos rfl, Nat.add_sub_cancel]
      have fin : ∀ x2 x3 : Int32, x2 = nI (loN V m 2 0) → x3 = nI (hiN V m 2 0) →
          (k_X7_told (nI (32 + 43 * m + 5 * V (31 + 43 * m))) x2 x3 mA (nI t) G.1 G.2.1 G.2.2.1 G.2.2.2.1 ∧ (if (f_X7_told (nI (32 + 43 * m + 5 * V (31 + 43 * m))) x2 x3 mA mR (nI t) G.1 G.2.1 G.2.2.1 G.2.2.2.1 mG mP G.2.2.2.2).1 = 0 then True else k_X7_readZones_L85 (nI (4 + 43 * m)) mA (nI t) mL (nI (32 + 43 * m + 5 * V (31 + 43 * m))) (f_X7_told (nI (32 + 43 * m + 5 * V (31 + 43 * m))) x2 x3 mA mR (nI t) G.1 G.2.1 G.2.2.1 G.2.2.2.1 mG mP G.2.2.2.2).2.1 (f_X7_told (nI (32 + 43 * m + 5 * V (31 + 43 * m))) x2 x3 mA mR (nI t) G.1 G.2.1 G.2.2.1 G.2.2.2.1 mG mP G.2.2.2.2).2.2.1 (f_X7_told (nI (32 + 43 * m + 5 * V (31 + 43 * m))) x2 x3 mA mR (nI t) G.1 G.2.1 G.2.2.1 G.2.2.2.1 mG mP G.2.2.2.2).2.2.2.1 (f_X7_told (nI (32 + 43 * m + 5 * V (31 + 43 * m))) x2 x3 mA mR (nI t) G.1 G.2.1 G.2.2.1 G.2.2.2.1 mG mP G.2.2.2.2).2.2.2.2.1 (f_X7_told (nI (32 + 43 * m + 5 * V (31 + 43 * m))) x2 x3 mA mR (nI t) G.1 G.2.1 G.2.2.1 G.2.2.2.1 mG mP G.2.2.2.2).2.2.2.2.2.1 (f_X7_told (nI (32 + 43 * m + 5 * V (31 + 43 * m))) x2 x3 mA mR (nI t) G.1 G.2.1 G.2.2.1 G.2.2.2.1 mG mP G.2.2.2.2).2.2.2.2.2.2.1 (f_X7_told (nI (32 + 43 * m + 5 * V (31 + 43 * m))) x2 x3 mA mR (nI t) G.1 G.2.1 G.2.2.1 G.2.2.2.1 mG mP G.2.2.2.2).2.2.2.2.2.2.2.1 (f_X7_told (nI (32 + 43 * m + 5 * V (31 + 43 * m))) x2 x3 mA mR (nI t) G.1 G.2.1 G.2.2.1 G.2.2.2.1 mG mP G.2.2.2.2).2.2.2.2.2.2.2.2)) ∧
          LRes b t a (m + 1) V e 2 (mR 0) mG mP mL (if (f_X7_told (nI (32 + 43 * m + 5 * V (31 + 43 * m))) x2 x3 mA mR (nI t) G.1 G.2.1 G.2.2.1 G.2.2.2.1 mG mP G.2.2.2.2).1 = 0 then f_X7_readZones_L83 mL (f_X7_told (nI (32 + 43 * m + 5 * V (31 + 43 * m))) x2 x3 mA mR (nI t) G.1 G.2.1 G.2.2.1 G.2.2.2.1 mG mP G.2.2.2.2).2.1 (f_X7_told (nI (32 + 43 * m + 5 * V (31 + 43 * m))) x2 x3 mA mR (nI t) G.1 G.2.1 G.2.2.1 G.2.2.2.1 mG mP G.2.2.2.2).2.2.1 (f_X7_told (nI (32 + 43 * m + 5 * V (31 + 43 * m))) x2 x3 mA mR (nI t) G.1 G.2.1 G.2.2.1 G.2.2.2.1 mG mP G.2.2.2.2).2.2.2.1 (f_X7_told (nI (32 + 43 * m + 5 * V (31 + 43 * m))) x2 x3 mA mR (nI t) G.1 G.2.1 G.2.2.1 G.2.2.2.1 mG mP G.2.2.2.2).2.2.2.2.1 (f_X7_told (nI (32 + 43 * m + 5 * V (31 + 43 * m))) x2 x3 mA mR (nI t) G.1 G.2.1 G.2.2.1 G.2.2.2.1 mG mP G.2.2.2.2).2.2.2.2.2.1 (f_X7_told (nI (32 + 43 * m + 5 * V (31 + 43 * m))) x2 x3 mA mR (nI t) G.1 G.2.1 G.2.2.1 G.2.2.2.1 mG mP G.2.2.2.2).2.2.2.2.2.2.1 (f_X7_told (nI (32 + 43 * m + 5 * V (31 + 43 * m))) x2 x3 mA mR (nI t) G.1 G.2.1 G.2.2.1 G.2.2.2.1 mG mP G.2.2.2.2).2.2.2.2.2.2.2.1 (f_X7_told (nI (32 + 43 * m + 5 * V (31 + 43 * m))) x2 x3 mA mR (nI t) G.1 G.2.1 G.2.2.1 G.2.2.2.1 mG mP G.2.2.2.2).2.2.2.2.2.2.2.2 else f_X7_readZones_L85 (nI (4 + 43 * m)) mA (nI t) mL (nI (32 + 43 * m + 5 * V (31 + 43 * m))) (f_X7_told (nI (32 + 43 * m + 5 * V (31 + 43 * m))) x2 x3 mA mR (nI t) G.1 G.2.1 G.2.2.1 G.2.2.2.1 mG mP G.2.2.2.2).2.1 (f_X7_told (nI (32 + 43 * m + 5 * V (31 + 43 * m))) x2 x3 mA mR (nI t) G.1 G.2.1 G.2.2.1 G.2.2.2.1 mG mP G.2.2.2.2).2.2.1 (f_X7_told (nI (32 + 43 * m + 5 * V (31 + 43 * m))) x2 x3 mA mR (nI t) G.1 G.2.1 G.2.2.1 G.2.2.2.1 mG mP G.2.2.2.2).2.2.2.1 (f_X7_told (nI (32 + 43 * m + 5 * V (31 + 43 * m))) x2 x3 mA mR (nI t) G.1 G.2.1 G.2.2.1 G.2.2.2.1 mG mP G.2.2.2.2).2.2.2.2.1 (f_X7_told (nI (32 + 43 * m + 5 * V (31 + 43 * m))) x2 x3 mA mR (nI t) G.1 G.2.1 G.2.2.1 G.2.2.2.1 mG mP G.2.2.2.2).2.2.2.2.2.1 (f_X7_told (nI (32 + 43 * m + 5 * V (31 + 43 * m))) x2 x3 mA mR (nI t) G.1 G.2.1 G.2.2.1 G.2.2.2.1 mG mP G.2.2.2.2).2.2.2.2.2.2.1 (f_X7_told (nI (32 + 43 * m + 5 * V (31 + 43 * m))) x2 x3 mA mR (nI t) G.1 G.2.1 G.2.2.1 G.2.2.2.1 mG mP G.2.2.2.2).2.2.2.2.2.2.2.1 (f_X7_told (nI (32 + 43 * m + 5 * V (31 + 43 * m))) x2 x3 mA mR (nI t) G.1 G.2.1 G.2.2.1 G.2.2.2.1 mG mP G.2.2.2.2).2.2.2.2.2.2.2.2) := by
        intro x2 x3 hx2 hx3
        obtain ⟨n1, n2⟩ := m_num h (n := 4) (LO := loN V m 2) (HI := hiN V m 2) g2 hM0 (by omega) (by omega) hlo.1 hlo.2 rfl hx2 hx3 rfl rfl mG mP
        rw [Nat.add_zero] at n1 n2
        rcases n2 with ⟨mR', o, f, q, u, y, q1, q2, q3, q4, q5⟩ | ⟨x, o, f, q, u, y, q1, q2⟩
        · have rdeq : rdN b t (loN V (m + 1 - 1) (tWd b t e)) (hiN V (m + 1 - 1) (tWd b t e)) (cntL (tWd b t e)) 0 (fun _ => 0) (tEn b t e) = rdN b t (loN V m 2) (hiN V m 2) 4 1 (updN (fun _ => 0) 0 (tNm b t (tEn b t e))) (tEn b t (tEn b t e)) := by
            rw [hw.2, Nat.add_sub_cancel]; exact q5
          rw [q1]
          simp only [if_neg one0, f_X7_readZones_L85, k_X7_readZones_L85]
          obtain ⟨r1, r2⟩ := m_znsL (V := V) h hm3 (base := 32 + 43 * m + 5 * V (31 + 43 * m)) (by omega) (by omega) hz mG mP mL 4 1 FU _ _ mR' o f q u y (by omega) (by omega) (FU_big (by omega)) q2 q3
          cases hrd : rdN b t (loN V m 2) (hiN V m 2) 4 1 (updN (fun _ => 0) 0 (tNm b t (tEn b t e))) (tEn b t (tEn b t e)) with
          | inl x =>
            obtain ⟨y1, mR2, o2, f2, q2', u2, y2, y3⟩ := r1 x hrd
            have y3' : f_X7_readZones_L88 (nI (4 + 43 * m)) mA (nI t) mL FU (nI (32 + 43 * m + 5 * V (31 + 43 * m))) 1 mR' o f q u mG mP y = _ := y3
            rw [y3']
            exact ⟨⟨n1, y1⟩, Or.inl ⟨x, Or.inr (Or.inr (Or.inl ⟨ok, nf', rdeq.trans hrd⟩)), rfl, rfl, rfl⟩⟩
          | inr we =>
            obtain ⟨w', e'⟩ := we
            obtain ⟨y1, y2⟩ := r2 w' e' hrd
            rcases y2 with ⟨z1, mR2, o2, f2, q2', u2, y2, z2⟩ | ⟨z1, mR2, o2, f2, q2', u2, y2, z2, z3, z4, mR3, z5, z6⟩
            · have z2' : f_X7_readZones_L88 (nI (4 + 43 * m)) mA (nI t) mL FU (nI (32 + 43 * m + 5 * V (31 + 43 * m))) 1 mR' o f q u mG mP y = _ := z2
              rw [z2']
              exact ⟨⟨n1, y1⟩, Or.inl ⟨(1, tSt b t e'), Or.inr (Or.inr (Or.inr ⟨ok, nf', w', e', rdeq.trans hrd, z1, rfl⟩)), rfl, rfl, rfl⟩⟩
            · have z2' : f_X7_readZones_L88 (nI (4 + 43 * m)) mA (nI t) mL FU (nI (32 + 43 * m + 5 * V (31 + 43 * m))) 1 mR' o f q u mG mP y = _ := z2
              rw [z2']
              refine ⟨⟨n1, y1⟩, Or.inr ⟨w', tEn b t e', mR2, o2, f2, q2', u2, y2, ⟨⟨hw.1, hw.2, by omega, ha⟩, nf, e', ?_, z1, rfl⟩, rfl, z3, ?_, z4.trans q4⟩⟩
              · rw [hw.2] at rdeq; exact rdeq.trans hrd
              · rw [env, z6]
                have e3 : mR3 (31 + 43 * m) = nI (V (31 + 43 * m)) := by rw [z5 _ (by omega) (by omega), putL_out (by omega)]
                rw [e3]
                intro j j1 j2
                by_cases hj : j = 31 + 43 * m
                · subst hj; rw [upd_eq, updN_eq]; exact nI_1 _
                · rw [upd_ne hj, updN_ne hj]; exact z5 j j1 j2
        · rw [q1]
          simp only [if_true, f_X7_readZones_L83]
          refine ⟨⟨n1, trivial⟩, Or.inl ⟨x, Or.inr (Or.inr (Or.inl ⟨ok, nf', ?_⟩)), rfl, rfl, rfl⟩⟩
          rw [hw.2, Nat.add_sub_cancel]; exact q2
      rw [eb]
      by_cases n0 : V (31 + 43 * m) = 0
      · have g0 : nI (V (31 + 43 * m)) = (0 : Int32) := by rw [n0]; rfl
        obtain ⟨f1, f2⟩ := fin 0 0 (by rw [loN, if_neg (by omega), if_neg (by omega)]; rfl) (by rw [hiN, if_pos ⟨rfl, rfl, n0⟩]; rfl)
        simp only [if_pos g0]
        exact ⟨⟨kw, v6, g1, f1⟩, f2⟩
      · have g0 : ¬ nI (V (31 + 43 * m)) = (0 : Int32) := nI_ne0 (by omega) (by omega)
        have es : nI (32 + 43 * m + 5 * V (31 + 43 * m)) - 5 = nI (32 + 43 * m + 5 * (V (31 + 43 * m) - 1)) := by rw [lit 5, nI_sub (by omega)]; congr 1; omega
        have em2 : mR (32 + 43 * m + 5 * (V (31 + 43 * m) - 1)) = nI (V (32 + 43 * m + 5 * (V (31 + 43 * m) - 1))) := hM _ (by omega) (by omega)
        have v7 : vp_in (nI (32 + 43 * m + 5 * (V (31 + 43 * m) - 1))) 181 := vp_in_nI (by omega) (by omega)
        obtain ⟨f1, f2⟩ := fin (nI (V (32 + 43 * m + 5 * (V (31 + 43 * m) - 1))) + 1) 99 (by rw [loN, if_neg (by omega), if_pos ⟨rfl, rfl, n0⟩, nI_1]) (by rw [hiN, if_neg (by omega)]; rfl)
        simp only [if_neg g0]
        rw [es, cl (show 32 + 43 * m + 5 * (V (31 + 43 * m) - 1) < 2 ^ 31 by omega), em2]
        exact ⟨⟨kw, v6, g1, v7, f1⟩, f2⟩
  · have w0 : f_X7_isZonesWord mQ mY = 0 := i0 hw
    obtain ⟨t1, t2, t3, t4, t5, t6⟩ := hT
    rw [f_X7_readZones, k_X7_readZones, w0, if_pos rfl, if_pos rfl, m_bad1]
    refine ⟨⟨kw, Or.inl rfl, trivial⟩, Or.inl ⟨(1, tSt b t e), Or.inl ⟨fun q => hw ⟨q.1, hW q.1 q.2.1 q.2.2⟩, rfl⟩, rfl, rfl, t2⟩⟩
end MLINE
