/-! PURE, 37: the class's lines, one behind the other -/
def mayF (l a : Nat) : Prop := (a = 0 ∧ l = 1) ∨ (a = 1 ∧ (l = 1 ∨ l = 2)) ∨ (a = 2 ∧ ¬ l = 1) ∨ (a = 3 ∧ (l = 3 ∨ l = 4)) ∨ (a = 5 ∧ l = 0)
theorem c_may : ∀ l : Fin 5, ∀ a : Fin 6, (mayF l.val a.val ∧ f_X3_mayFollow (nI l.val) (nI a.val) = 1) ∨ (¬ mayF l.val a.val ∧ f_X3_mayFollow (nI l.val) (nI a.val) = 0) := by
  have : ∀ l : Fin 5, ∀ a : Fin 6, (((a.val = 0 ∧ l.val = 1) ∨ (a.val = 1 ∧ (l.val = 1 ∨ l.val = 2)) ∨ (a.val = 2 ∧ ¬ l.val = 1) ∨ (a.val = 3 ∧ (l.val = 3 ∨ l.val = 4)) ∨ (a.val = 5 ∧ l.val = 0)) ∧ f_X3_mayFollow (nI l.val) (nI a.val) = 1) ∨ (¬ ((a.val = 0 ∧ l.val = 1) ∨ (a.val = 1 ∧ (l.val = 1 ∨ l.val = 2)) ∨ (a.val = 2 ∧ ¬ l.val = 1) ∨ (a.val = 3 ∧ (l.val = 3 ∨ l.val = 4)) ∨ (a.val = 5 ∧ l.val = 0)) ∧ f_X3_mayFollow (nI l.val) (nI a.val) = 0) := by decide +kernel
  exact this
section READ
variable {b : Nat → Nat} {t : Nat} {tB mA : Nat → Int32} {nc : Nat} {V : Nat → Nat} {dA dB dZ dG dP dQ : Nat → Int32} {dC dM : Int32}
theorem c_full (hV : VOk nc V) (h : DC nc V dA dB dZ dG dP dQ dC dM) {l : Nat} (hl : l < 5) (hc : l = 1 ∨ l = 2 → 1 ≤ nc) : (fullL nc V l ∧ f_X0_isFull (nI l) dP dQ dC dM = 1) ∨ (¬ fullL nc V l ∧ f_X0_isFull (nI l) dP dQ dC dM = 0) := by
  have hn := hV.1
  have h8 := hV.2.1
  have hD := h
  obtain ⟨h1, h2, _⟩ := h
  rw [f_X0_isFull, fullL]
  rcases (show l = 0 ∨ l = 1 ∨ l = 2 ∨ l = 3 ∨ l = 4 by omega) with rfl | rfl | rfl | rfl | rfl
  · rw [if_pos (show nI 0 = (0 : Int32) from rfl), h1]
    by_cases q : nc = 3
    · left
      exact ⟨Or.inl ⟨rfl, q⟩, if_neg (nI_nlt (b := 3) (by omega) (by omega))⟩
    · right
      exact ⟨by omega, if_pos (nI_lt (b := 3) (by omega) (by omega))⟩
  · obtain ⟨k1, k2, k3, k4⟩ := c_counts hV hD (hc (Or.inl rfl))
    rw [f_X0_carrierCount] at k1
    rw [if_neg (show ¬ nI 1 = (0 : Int32) by decide), if_pos (show nI 1 = (1 : Int32) from rfl), k1]
    by_cases q : V (10 + 43 * (nc - 1)) = 5
    · left
      exact ⟨Or.inr (Or.inl ⟨rfl, q⟩), if_neg (nI_nlt (b := 5) (by omega) (by omega))⟩
    · right
      exact ⟨by omega, if_pos (nI_lt (b := 5) (by omega) (by omega))⟩
  · obtain ⟨k1, k2, k3, k4⟩ := c_counts hV hD (hc (Or.inr rfl))
    rw [f_X0_carrierCount] at k2
    rw [if_neg (show ¬ nI 2 = (0 : Int32) by decide), if_neg (show ¬ nI 2 = (1 : Int32) by decide), if_pos (show nI 2 = (2 : Int32) from rfl), k2]
    by_cases q : V (31 + 43 * (nc - 1)) = 3
    · left
      exact ⟨Or.inr (Or.inr (Or.inl ⟨rfl, q⟩)), if_neg (nI_nlt (b := 3) (by omega) (by omega))⟩
    · right
      exact ⟨by omega, if_pos (nI_lt (b := 3) (by omega) (by omega))⟩
  · rw [if_neg (show ¬ nI 3 = (0 : Int32) by decide), if_neg (show ¬ nI 3 = (1 : Int32) by decide), if_neg (show ¬ nI 3 = (2 : Int32) by decide), if_pos (show nI 3 = (3 : Int32) from rfl), h2]
    by_cases q : V 1 = 8
    · left
      exact ⟨Or.inr (Or.inr (Or.inr ⟨rfl, q⟩)), if_neg (nI_nlt (b := 8) (by omega) (by omega))⟩
    · right
      exact ⟨by omega, if_pos (nI_lt (b := 8) (by omega) (by omega))⟩
  · right
    rw [if_neg (show ¬ nI 4 = (0 : Int32) by decide), if_neg (show ¬ nI 4 = (1 : Int32) by decide), if_neg (show ¬ nI 4 = (2 : Int32) by decide), if_neg (show ¬ nI 4 = (3 : Int32) by decide)]
    exact ⟨by omega, rfl⟩
/-- what a line comes to -/
def LFail (b : Nat → Nat) (t a nc : Nat) (V : Nat → Nat) (e : Nat) (x : Nat × Nat) : Prop :=
  (¬ (tKd b t e = 2 ∧ tWd b t e < 5 ∧ mayF (tWd b t e) a) ∧ x = (1, tSt b t e)) ∨ ((tKd b t e = 2 ∧ tWd b t e < 5 ∧ mayF (tWd b t e) a) ∧ fullL nc V (tWd b t e) ∧ x = (3, tSt b t e)) ∨
  ((tKd b t e = 2 ∧ tWd b t e < 5 ∧ mayF (tWd b t e) a) ∧ ¬ fullL nc V (tWd b t e) ∧ rdN b t (loN V (nc - 1) (tWd b t e)) (hiN V (nc - 1) (tWd b t e)) (cntL (tWd b t e)) 0 (fun _ => 0) (tEn b t e) = .inl x) ∨
  ((tKd b t e = 2 ∧ tWd b t e < 5 ∧ mayF (tWd b t e) a) ∧ ¬ fullL nc V (tWd b t e) ∧ ∃ (w : Nat → Nat) (e' : Nat), rdN b t (loN V (nc - 1) (tWd b t e)) (hiN V (nc - 1) (tWd b t e)) (cntL (tWd b t e)) 0 (fun _ => 0) (tEn b t e) = .inr (w, e') ∧ ¬ tKd b t e' = 4 ∧ x = (1, tSt b t e'))
def LGood (b : Nat → Nat) (t a nc : Nat) (V : Nat → Nat) (e l : Nat) (w : Nat → Nat) (e2 : Nat) : Prop :=
  (tKd b t e = 2 ∧ tWd b t e = l ∧ l < 5 ∧ mayF l a) ∧ ¬ fullL nc V l ∧ ∃ e' : Nat, rdN b t (loN V (nc - 1) l) (hiN V (nc - 1) l) (cntL l) 0 (fun _ => 0) (tEn b t e) = .inr (w, e') ∧ tKd b t e' = 4 ∧ e2 = tEn b t e'
theorem c_rlFail (h : TapeB b t tB mA) (hV : VOk nc V) (hD : DC nc V dA dB dZ dG dP dQ dC dM) {a e : Nat} (ha : a < 6) (hph : a < 3 → 1 ≤ nc) (he : e ≤ t) {x : Nat × Nat} (hx : LFail b t a nc V e x) (eN : Nat → Int32) (eU dL dD : Int32) :
    k_X3_readLine (nI a) tB eN dA dB dZ dG dP dQ (nI t) 0 (nI e) eU dC dM ∧ ∃ (eN' : Nat → Int32) (eK' eE' eU' : Int32), f_X3_readLine (nI a) tB eN dA dB dZ dG dP dQ (nI t) 0 (nI e) eU dC dM dL dD = (-1, eN', dA, dB, dZ, dG, dP, dQ, nI x.1, eK', nI x.2, eE', eU', dC, dM, dL, dD) := by
  obtain ⟨a1, ck, en, u, a2, a3⟩ := c_adv h he eU
  obtain ⟨_, _, s3, _⟩ := tok_facts h he
  rw [f_X3_readLine, k_X3_readLine, a2, f_X3_readLine_L4, k_X3_readLine_L4]
  by_cases hw : tKd b t e = 2
  · have hx2 : ck = 2 ∧ en = tEn b t e := by
      rcases a3 with ⟨_, q1, q2⟩ | ⟨q, _⟩ | ⟨q, _⟩ | ⟨q, _⟩ | ⟨q, _⟩
      · exact ⟨q1, q2⟩
      · omega
      · omega
      · omega
      · omega
    obtain ⟨rfl, rfl⟩ := hx2
    have g2 : nI 2 = (2 : Int32) := rfl
    obtain ⟨l1, l2⟩ := c_line h he hw
    obtain ⟨_, _, _, _, s8⟩ := s3 (by omega)
    simp only [if_pos g2, l2]
    by_cases h5 : tWd b t e < 5
    · rw [if_pos h5]
      have gm : ¬ nI (tWd b t e) = (-1 : Int32) := nI_ne_neg M1_neg (by omega)
      rw [f_X3_readLine_L21, k_X3_readLine_L21, if_neg gm, if_neg gm]
      rcases c_may ⟨tWd b t e, h5⟩ ⟨a, ha⟩ with ⟨m1, m2⟩ | ⟨m1, m2⟩
      · have m1' : mayF (tWd b t e) a := m1
        have hc : tWd b t e = 1 ∨ tWd b t e = 2 → 1 ≤ nc := by
          intro q
          apply hph
          rcases m1' with q' | q' | q' | q' | q' <;> omega
        simp only [] at m2
        rw [m2, if_neg one0, if_neg one0]
        rcases c_full hV hD h5 hc with ⟨f1, f2⟩ | ⟨f1, f2⟩
        · rw [f2, if_neg one0, if_neg one0]
          have ex : x = (3, tSt b t e) := by
            rcases hx with ⟨q, _⟩ | ⟨_, _, q⟩ | ⟨_, q, _⟩ | ⟨_, q, _⟩
            · exact absurd ⟨hw, h5, m1'⟩ q
            · exact q
            · exact absurd f1 q
            · exact absurd f1 q
          rw [ex]
          exact ⟨⟨a1, l1, trivial⟩, _, _, _, _, rfl⟩
        · rw [f2, if_pos rfl, if_pos rfl]
          obtain ⟨c1, c2⟩ := c_numsL (dL := dL) (dD := dD) h hV hD h5 hc 0 (cntL (tWd b t e)) 0 (fun _ => 0) (tEn b t e) FU eN (nI 2) (nI (tSt b t e)) u (by omega) (by have := (atS_cnt ⟨tWd b t e, h5⟩).2; have := FU_big (n := cntL (tWd b t e)) (by simp only [] at this; omega); omega) s8 (fun j hj => by omega)
          rcases hx with ⟨q, _⟩ | ⟨_, q, _⟩ | ⟨_, _, q⟩ | ⟨_, _, w, e', q1, q2, q3⟩
          · exact absurd ⟨hw, h5, m1'⟩ q
          · exact absurd q f1
          · obtain ⟨y1, y2⟩ := c1 x q
            exact ⟨⟨a1, l1, y1⟩, y2⟩
          · obtain ⟨eN', u', y1, y2, y3⟩ := c2 w e' q1
            have he' := (rdN_ok h _ _ _ _ w e' s8 q1).2.1
            obtain ⟨z1, ck', en', u2, z2, z3⟩ := c_adv h he' u'
            have gk : ¬ nI ck' = (4 : Int32) := by
              rcases z3 with ⟨_, p, _⟩ | ⟨_, p, _⟩ | ⟨p, _⟩ | ⟨_, p, _⟩ | ⟨_, p | ⟨p, _⟩⟩
              · exact nI_ne (b := 4) (by omega) (by omega) (by omega)
              · exact nI_ne (b := 4) (by omega) (by omega) (by omega)
              · omega
              · exact nI_ne (b := 4) (by omega) (by omega) (by omega)
              · exact nI_ne (b := 4) (by omega) (by omega) (by omega)
              · exact nI_ne (b := 4) (by omega) (by omega) (by omega)
            rw [z2, f_X3_readLine_L115] at y2
            rw [z2, k_X3_readLine_L115] at y3
            simp only [if_neg gk] at y2 y3
            refine ⟨⟨a1, l1, y3 trivial⟩, ?_⟩
            rw [q3]
            exact ⟨_, _, _, _, y2⟩
      · simp only [] at m2
        rw [m2, if_pos rfl, if_pos rfl]
        have ex : x = (1, tSt b t e) := by
          rcases hx with ⟨_, q⟩ | ⟨q, _⟩ | ⟨q, _⟩ | ⟨q, _⟩
          · exact q
          · exact absurd q.2.2 m1
          · exact absurd q.2.2 m1
          · exact absurd q.2.2 m1
        rw [ex]
        exact ⟨⟨a1, l1, trivial⟩, _, _, _, _, rfl⟩
    · rw [if_neg h5]
      have gm : M1 = (-1 : Int32) := rfl
      rw [f_X3_readLine_L21, k_X3_readLine_L21, if_pos gm, if_pos gm]
      have ex : x = (1, tSt b t e) := by
        rcases hx with ⟨_, q⟩ | ⟨q, _⟩ | ⟨q, _⟩ | ⟨q, _⟩
        · exact q
        · exact absurd q.2.1 h5
        · exact absurd q.2.1 h5
        · exact absurd q.2.1 h5
      rw [ex]
      exact ⟨⟨a1, l1, trivial⟩, _, _, _, _, rfl⟩
  · have gk : ¬ nI ck = (2 : Int32) := by
      rcases a3 with ⟨p, _⟩ | ⟨_, p, _⟩ | ⟨_, p, _⟩ | ⟨_, p, _⟩ | ⟨_, p | ⟨p, _⟩⟩
      · exact absurd p hw
      · exact nI_ne (b := 2) (by omega) (by omega) (by omega)
      · exact nI_ne (b := 2) (by omega) (by omega) (by omega)
      · exact nI_ne (b := 2) (by omega) (by omega) (by omega)
      · exact nI_ne (b := 2) (by omega) (by omega) (by omega)
      · exact nI_ne (b := 2) (by omega) (by omega) (by omega)
    simp only [if_neg gk]
    rw [f_X3_readLine_L21, k_X3_readLine_L21, if_pos rfl, if_pos rfl]
    have ex : x = (1, tSt b t e) := by
      rcases hx with ⟨_, q⟩ | ⟨q, _⟩ | ⟨q, _⟩ | ⟨q, _⟩
      · exact q
      · exact absurd q.1 hw
      · exact absurd q.1 hw
      · exact absurd q.1 hw
    rw [ex]
    exact ⟨⟨a1, trivial⟩, _, _, _, _, rfl⟩
theorem c_rlGood (h : TapeB b t tB mA) (hV : VOk nc V) (hD : DC nc V dA dB dZ dG dP dQ dC dM) {a e l e2 : Nat} {w : Nat → Nat} (ha : a < 6) (hph : a < 3 → 1 ≤ nc) (he : e ≤ t) (hx : LGood b t a nc V e l w e2) (eN : Nat → Int32) (eU dL dD : Int32) :
    VOk (nextC nc l) (nextV nc l V w) ∧ e < e2 ∧ e2 ≤ t ∧ k_X3_readLine (nI a) tB eN dA dB dZ dG dP dQ (nI t) 0 (nI e) eU dC dM ∧ ∃ (eN' dA' dB' dZ' dG' dP' dQ' : Nat → Int32) (eK' eS' eU' dC' dM' dL' dD' : Int32), f_X3_readLine (nI a) tB eN dA dB dZ dG dP dQ (nI t) 0 (nI e) eU dC dM dL dD = (nI l, eN', dA', dB', dZ', dG', dP', dQ', 0, eK', eS', nI e2, eU', dC', dM', dL', dD') ∧
      DC (nextC nc l) (nextV nc l V w) dA' dB' dZ' dG' dP' dQ' dC' dM' ∧ (l = 4 → dL' = nI (w 0) ∧ dD' = nI (w 1)) := by
  obtain ⟨⟨hw, hwl, h5, m1'⟩, f0, e', q1, q2, q3⟩ := hx
  subst hwl
  obtain ⟨a1, ck, en, u, a2, a3⟩ := c_adv h he eU
  obtain ⟨_, _, s3, _⟩ := tok_facts h he
  have hx2 : ck = 2 ∧ en = tEn b t e := by
    rcases a3 with ⟨_, q1, q2⟩ | ⟨q, _⟩ | ⟨q, _⟩ | ⟨q, _⟩ | ⟨q, _⟩
    · exact ⟨q1, q2⟩
    · omega
    · omega
    · omega
    · omega
  obtain ⟨rfl, rfl⟩ := hx2
  have g2 : nI 2 = (2 : Int32) := rfl
  obtain ⟨l1, l2⟩ := c_line h he hw
  obtain ⟨_, _, _, s7, s8⟩ := s3 (by omega)
  have hc : tWd b t e = 1 ∨ tWd b t e = 2 → 1 ≤ nc := by
    intro q
    apply hph
    rcases m1' with q' | q' | q' | q' | q' <;> omega
  obtain ⟨r1, r2, r3, r4⟩ := rdN_ok h _ _ _ _ w e' s8 q1
  have hV' := v_next h5 hV hc f0 (fun i hi => r4 i (by omega) (by omega))
  obtain ⟨_, _, s3', _⟩ := tok_facts h r2
  obtain ⟨_, _, _, s7', s8'⟩ := s3' (by omega)
  obtain ⟨se1, _⟩ := tok_facts h he
  obtain ⟨se2, _⟩ := tok_facts h r2
  refine ⟨hV', by omega, by omega, ?_⟩
  rw [f_X3_readLine, k_X3_readLine, a2, f_X3_readLine_L4, k_X3_readLine_L4]
  simp only [if_pos g2, l2]
  have gm : ¬ nI (tWd b t e) = (-1 : Int32) := nI_ne_neg M1_neg (by omega)
  rw [if_pos h5, f_X3_readLine_L21, k_X3_readLine_L21, if_neg gm, if_neg gm]
  rcases c_may ⟨tWd b t e, h5⟩ ⟨a, ha⟩ with ⟨_, m2⟩ | ⟨m1, _⟩
  · simp only [] at m2
    rw [m2, if_neg one0, if_neg one0]
    rcases c_full hV hD h5 hc with ⟨f1, _⟩ | ⟨_, f2⟩
    · exact absurd f1 f0
    · rw [f2, if_pos rfl, if_pos rfl]
      obtain ⟨c1, c2⟩ := c_numsL (dL := dL) (dD := dD) h hV hD h5 hc 0 (cntL (tWd b t e)) 0 (fun _ => 0) (tEn b t e) FU eN (nI 2) (nI (tSt b t e)) u (by omega) (by have := (atS_cnt ⟨tWd b t e, h5⟩).2; have := FU_big (n := cntL (tWd b t e)) (by simp only [] at this; omega); omega) s8 (fun j hj => by omega)
      obtain ⟨eN', u', y1, y2, y3⟩ := c2 w e' q1
      obtain ⟨z1, ck', en', u2, z2, z3⟩ := c_adv h r2 u'
      have hx4 : ck' = 4 ∧ en' = tEn b t e' := by
        rcases z3 with ⟨p, _⟩ | ⟨p, _⟩ | ⟨_, p1, p2⟩ | ⟨p, _⟩ | ⟨p, _⟩
        · omega
        · omega
        · exact ⟨p1, p2⟩
        · omega
        · omega
      obtain ⟨rfl, rfl⟩ := hx4
      have g4 : nI 4 = (4 : Int32) := rfl
      obtain ⟨d1, dA', dB', dZ', dG', dP', dQ', dC', dM', dL', dD', d2, d3, d4⟩ := dc_add h5 hV hc f0 hD y1 dL dD
      rw [z2, f_X3_readLine_L115] at y2
      rw [z2, k_X3_readLine_L115] at y3
      simp only [if_pos g4, d2] at y2 y3
      refine ⟨⟨a1, l1, y3 ⟨d1, trivial⟩⟩, ?_⟩
      rw [q3]
      exact ⟨_, _, _, _, _, _, _, _, _, _, _, _, _, _, y2, d3, d4⟩
  · exact absurd m1' m1
end READ
