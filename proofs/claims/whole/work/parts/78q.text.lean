/-! PURE, 46: text -/
theorem m_zero35 : ∀ (n k : Nat) (w : Nat → Int32), 181 < k + n → k ≤ 181 → k_X7_text_L35 n (nI k) w ∧ ∀ j : Nat, (f_X7_text_L35 n (nI k) w).2 j = if k ≤ j ∧ j < 181 then nI 0 else w j := by
  intro n
  induction n with
  | zero => intro k w h1 h2; omega
  | succ n ih =>
    intro k w h1 h2
    rw [f_X7_text_L35, k_X7_text_L35, lit 181, lit 0]
    by_cases h3 : k = 181
    · have g3 : nI 181 ≤ nI k := nI_le (by omega) (by omega)
      rw [if_pos g3, if_pos g3]
      exact ⟨trivial, fun j => by rw [if_neg (by omega)]⟩
    · have g3 : ¬ nI 181 ≤ nI k := nI_ge (by omega) (by omega)
      rw [if_neg g3, if_neg g3, cl (show k < 2 ^ 31 by omega), nI_1]
      obtain ⟨r1, r2⟩ := ih (k + 1) (upd w k (nI 0)) (by omega) (by omega)
      refine ⟨⟨vp_in_nI (by omega) (by omega), r1⟩, fun j => ?_⟩
      rw [r2 j]
      by_cases h4 : j = k
      · subst h4; rw [if_neg (by omega), if_pos (by omega), upd_eq]
      · rw [upd_ne h4]
        by_cases h5 : k + 1 ≤ j ∧ j < 181
        · rw [if_pos h5, if_pos (by omega)]
        · rw [if_neg h5, if_neg (by omega)]
theorem m_copy75 {mR : Nat → Int32} {mO mF mQ mU mG mP mL : Int32} {mY : Int64} : ∀ (n k : Nat) (w : Nat → Int32), 181 < k + n → k ≤ 181 → k_X7_text_L75 n (nI k) w mR mO mF mQ mU mG mP mY mL ∧ ∃ w' : Nat → Int32, f_X7_text_L75 n (nI k) w mR mO mF mQ mU mG mP mY mL = (nI 181, w', mR, mO, mF, mQ, mU, mG, mP, mY, mL) ∧ ∀ j : Nat, w' j = if k ≤ j ∧ j < 181 then mR j else w j := by
  intro n
  induction n with
  | zero => intro k w h1 h2; omega
  | succ n ih =>
    intro k w h1 h2
    rw [f_X7_text_L75, k_X7_text_L75, lit 181]
    by_cases h3 : k = 181
    · have g3 : nI 181 ≤ nI k := nI_le (by omega) (by omega)
      rw [if_pos g3, if_pos g3, h3]
      exact ⟨trivial, w, rfl, fun j => by rw [if_neg (by omega)]⟩
    · have g3 : ¬ nI 181 ≤ nI k := nI_ge (by omega) (by omega)
      have v : vp_in (nI k) 181 := vp_in_nI (by omega) (by omega)
      rw [if_neg g3, if_neg g3, cl (show k < 2 ^ 31 by omega), nI_1]
      obtain ⟨r1, w', r2, r3⟩ := ih (k + 1) (upd w k (mR k)) (by omega) (by omega)
      refine ⟨⟨v, v, r1⟩, w', r2, fun j => ?_⟩
      rw [r3 j]
      by_cases h4 : j = k
      · subst h4; rw [if_neg (by omega), if_pos (by omega), upd_eq]
      · rw [upd_ne h4]
        by_cases h5 : k + 1 ≤ j ∧ j < 181
        · rw [if_pos h5, if_pos (by omega)]
        · rw [if_neg h5, if_neg (by omega)]
theorem vok0 : VOk 0 (fun _ => 0) := ⟨by omega, Nat.zero_le _, fun c _ => ⟨Nat.zero_le _, Nat.zero_le _, fun _ => ⟨rfl, rfl⟩⟩, fun c hc => by omega, fun c k hc => by omega, fun c k hc => by omega, fun g hg => absurd hg (Nat.not_lt_zero g), fun g _ => rfl, fun i _ _ => rfl⟩
def rowOf (nc : Nat) (V : Nat → Nat) : Nat → Nat := fun i => if i = 0 then nc else V i
theorem rowOf_ne {nc : Nat} {V : Nat → Nat} {i : Nat} (h : i ≠ 0) : rowOf nc V i = V i := if_neg h
theorem rowOf_0 {nc : Nat} {V : Nat → Nat} : rowOf nc V 0 = nc := if_pos rfl
theorem rowOf_ok {nc : Nat} {V : Nat → Nat} (hV : VOk nc V) (hC : Comp nc V) (h1 : 1 ≤ nc) (h2 : V 2 ≤ 3) (h3 : V 3 ≤ 99) : RowOk (rowOf nc V) := by
  obtain ⟨k1, k2, k3, k4, k5, k6, k7, k8, k9⟩ := hV
  have E : ∀ i : Nat, 1 ≤ i → rowOf nc V i = V i := fun i hi => rowOf_ne (by omega)
  refine ⟨?_, ?_, ?_, ?_, ?_, ?_, ?_⟩
  · rw [rowOf_0, E 1 (by omega), E 2 (by omega), E 3 (by omega)]; exact ⟨h1, k1, k2, h2, h3⟩
  · intro c hc
    rw [rowOf_0] at hc
    rw [E _ (by omega), E _ (by omega), E _ (by omega), E _ (by omega), E _ (by omega), E _ (by omega), E _ (by omega), E _ (by omega)]
    obtain ⟨q1, q2, q3, q4, q5, q6⟩ := k4 c hc
    exact ⟨q1, q2, q3, q4, q5, q6, ⟨(hC c hc).1, (k3 c (by omega)).1⟩, (hC c hc).2, (k3 c (by omega)).2.1⟩
  · intro c k hc hk
    rw [rowOf_0] at hc
    rw [E _ (by omega)] at hk
    rw [E _ (by omega)]
    refine ⟨(k5 c k hc hk).1, fun z hz => ?_⟩
    rw [E _ (by omega)]; exact (k5 c k hc hk).2 z hz
  · intro c k hc hk
    rw [rowOf_0] at hc
    rw [E _ (by omega)] at hk
    rw [E _ (by omega)]
    refine ⟨(k6 c k hc hk).1, fun z hz => ?_⟩
    rw [E _ (by omega)]; exact (k6 c k hc hk).2 z hz
  · intro g hg
    rw [E _ (by omega)] at hg
    rw [E _ (by omega), E _ (by omega), E _ (by omega)]; exact k7 g hg
  · intro g hg
    rw [E _ (by omega), k8 g hg]; exact ⟨by omega, fun _ => rfl⟩
  · intro q hq
    rw [rowOf_0, E _ (by omega), E _ (by omega), k9 _ (by omega) (by omega), k9 _ (by omega) (by omega)]; exact ⟨by omega, by omega⟩
theorem c_copyFrom {nc : Nat} {V : Nat → Nat} (hV : VOk nc V) {dA dB dZ dG dP dQ : Nat → Int32} {dC dM : Int32} (hD : DC nc V dA dB dZ dG dP dQ dC dM) (bA bB bZ bG bP bQ : Nat → Int32) (dL dD : Int32) : k_X0_copyFrom bA bB bZ bG bP bQ dA dB dZ dG dP dQ ∧ ∃ (bA' bB' bZ' bG' bP' bQ' : Nat → Int32), f_X0_copyFrom bA bB bZ bG bP bQ dA dB dZ dG dP dQ dC dM dL dD = (bA', bB', bZ', bG', bP', bQ', dC, dM, dL, dD) ∧ BookC (rowOf nc V) bA' bB' bZ' bG' bP' bQ' dC dM := by
  obtain ⟨h1, h2, h3, h4, h5, h6, h7⟩ := hD
  have hn := hV.1
  have h8 := hV.2.1
  have hb := hV.2.2.1
  have E : ∀ i : Nat, 1 ≤ i → rowOf nc V i = V i := fun i hi => rowOf_ne (by omega)
  obtain ⟨a1, a2⟩ := copyN (a := 0) (b := 0) (c := 18) (n1 := 18) (n2 := 18) (gg := dA) (by omega) (by omega) (by omega) (by omega) (by omega) bA
  obtain ⟨b1, b2⟩ := copyN (a := 0) (b := 0) (c := 60) (n1 := 60) (n2 := 60) (gg := dB) (by omega) (by omega) (by omega) (by omega) (by omega) bB
  obtain ⟨c1, c2⟩ := copyN (a := 0) (b := 0) (c := 45) (n1 := 45) (n2 := 45) (gg := dZ) (by omega) (by omega) (by omega) (by omega) (by omega) bZ
  obtain ⟨d1, d2⟩ := copyN (a := 0) (b := 0) (c := 24) (n1 := 24) (n2 := 24) (gg := dG) (by omega) (by omega) (by omega) (by omega) (by omega) bG
  obtain ⟨e1, e2⟩ := copyN (a := 0) (b := 0) (c := 3) (n1 := 3) (n2 := 3) (gg := dP) (by omega) (by omega) (by omega) (by omega) (by omega) bP
  obtain ⟨f1, f2⟩ := copyN (a := 0) (b := 0) (c := 3) (n1 := 3) (n2 := 3) (gg := dQ) (by omega) (by omega) (by omega) (by omega) (by omega) bQ
  have cp : ∀ {f g : Nat → Int32} {h : Nat → Int32} {c : Nat}, (∀ j : Nat, f j = if 0 ≤ j ∧ j < 0 + c then g (0 + (j - 0)) else h j) → ∀ j : Nat, j < c → f j = g j := by
    intro f g h c hf j hj
    rw [hf j, if_pos ⟨by omega, by omega⟩]; congr 1; omega
  refine ⟨⟨a1, b1, c1, d1, e1, f1, trivial⟩, _, _, _, _, _, _, rfl, ?_⟩
  refine ⟨by rw [rowOf_0]; exact h1, by rw [E 1 (by omega)]; exact h2, ?_, ?_, ?_, ?_, ?_, ?_⟩
  · intro c j hc hj
    rw [rowOf_0] at hc
    rw [E _ (by omega)]
    exact (cp a2 _ (by omega)).trans (h3 c j hc hj)
  · intro c hc
    rw [rowOf_0] at hc
    rw [E _ (by omega)]
    exact (cp e2 _ (by omega)).trans (h4 c (by omega)).1
  · intro c hc
    rw [rowOf_0] at hc
    rw [E _ (by omega)]
    exact (cp f2 _ (by omega)).trans (h4 c (by omega)).2
  · intro c k w hc hk hw
    rw [rowOf_0] at hc
    rw [E _ (by omega)] at hk
    rw [E _ (by omega)]
    have := hb c (by omega)
    exact (cp b2 _ (by omega)).trans (h5 c k w (by omega) hk hw)
  · intro c k w hc hk hw
    rw [rowOf_0] at hc
    rw [E _ (by omega)] at hk
    rw [E _ (by omega)]
    have := hb c (by omega)
    exact (cp c2 _ (by omega)).trans (h6 c k w (by omega) hk hw)
  · intro g w hg hw
    rw [E _ (by omega)] at hg
    rw [E _ (by omega)]
    exact (cp d2 _ (by omega)).trans (h7 g w hg hw)
section TEXT
variable {R : Nat → Nat} {tB mA eN rK rL rG sZ pS pE bA bB bZ bG bP bQ dA dB dZ dG dP dQ mN mR mS : Nat → Int32} {tN pN pK eK eS eU bC bM bL bD mK mU mP mV : Int32} {mY : Int64} {sR : Nat → Int64}
theorem cut0 {t : Nat} (ht : t ≤ 740) : (f_X5_cutTo 0 (nI t)).2 = nI 0 := by
  have g1 : ¬ (0 : Int32) < 0 := by decide
  have g2 : (0 : Int32) ≤ nI t := nI_pos' (by omega)
  rw [f_X5_cutTo, if_neg g1, if_pos g2]; rfl
theorem t_text (hR : RowOk R) (hm : RowM R mN) (hb : BookC R bA bB bZ bG bP bQ bC bM) (hp : PricesC R rK rL rG) (hl : PlanOf R pS) (hc : CacheOk R sZ sR) (hr : RingOk R pE mS pN pK mV) (hT : TapeOk tB mA tN mK) :
    k_X6_text tB eN rK rL rG sZ pS bA bB bZ bG bP bQ dA dB dZ dG dP dQ tN eK eS eU ∧ k_X7_text mA mN mR mK mU mP mY ∧
    ∃ (ans : Int32) (eN' rK' rL' rG' sZ' pS' bA' bB' bZ' bG' bP' bQ' dA' dB' dZ' dG' dP' dQ' : Nat → Int32) (tN' pN' pK' eF' eK' eS' eE' eU' xF' bC' bM' bL' bD' dC' dM' dL' dD' : Int32) (mN' mR' : Nat → Int32) (x4 mK' x6 x7 x8 x9 x10 mG' x12 : Int32) (x13 : Int64) (mV' x15 : Int32),
      f_X6_text tB eN rK rL rG sZ pS bA bB bZ bG bP bQ dA dB dZ dG dP dQ tN pN pK eK eS eU bC bM bL bD = (ans, eN', rK', rL', rG', sZ', pS', bA', bB', bZ', bG', bP', bQ', dA', dB', dZ', dG', dP', dQ', tN', pN', pK', eF', eK', eS', eE', eU', xF', bC', bM', bL', bD', dC', dM', dL', dD') ∧
      f_X7_text mA mN mR mK mU mP mY mV = (ans, mN', mR', x4, mK', x6, x7, x8, x9, x10, mG', x12, x13, mV', x15) ∧
      (∃ R' : Nat → Nat, (RowOk R' ∧ RowM R' mN' ∧ BookC R' bA' bB' bZ' bG' bP' bQ' bC' bM' ∧ PricesC R' rK' rL' rG' ∧ PlanOf R' pS' ∧ CacheOk R' sZ' sR) ∧ RingOk R' pE mS pN' pK' mV') ∧ TapeOk tB mA tN' mK' ∧ xF' = mG' := by
  obtain ⟨t, ht, rfl, rfl, hby⟩ := hT
  have hTB : TapeB (fun i => (mA i).toNatClampNeg) t tB mA := by
    refine ⟨ht, fun i hi => ?_⟩
    obtain ⟨x, x1, x2, x3⟩ := hby i hi
    have e : (mA i).toNatClampNeg = x := by rw [x2]; exact cl (by omega)
    show (mA i).toNatClampNeg < 256 ∧ mA i = nI (mA i).toNatClampNeg ∧ tB i = jbyte (nI (mA i).toNatClampNeg)
    rw [e]; exact ⟨x1, x2, x3⟩
  generalize (fun i => (mA i).toNatClampNeg) = b at hTB
  obtain ⟨z1, z2⟩ := m_zero35 FU 0 mR (by have := FU_big (n := 181) (by omega); omega) (by omega)
  obtain ⟨g1, g2⟩ := m_tok hTB (Nat.zero_le t) mU mY
  have hM0 : MRw (fun _ => 0) (f_X7_text_L35 FU (nI 0) mR).2 := by
    intro j j1 j2; rw [z2 j, if_pos (by omega)]
  have hM00 : (f_X7_text_L35 FU (nI 0) mR).2 0 = nI 0 := by rw [z2 0, if_pos (by omega)]
  have hS0 : SOk t 5 0 (fun _ => 0) 0 0 := ⟨vok0, Nat.zero_le t, by omega, by omega, by omega, by omega⟩
  obtain ⟨w1, w2⟩ := m_wholeL hTB 0 FU 5 0 0 0 (fun _ => 0) (f_X7_text_L35 FU (nI 0) mR).2 _ _ _ _ mP _ hS0 (by have := FU_big (n := 3) (by omega); omega) (Or.inl rfl) g2 hM0 hM00 (fun c hc => by omega)
  -- the class's start
  obtain ⟨fp1, fp2⟩ := fillN (x := 0) (n1 := 3) (by omega) dP
  obtain ⟨fq1, fq2⟩ := fillN (x := 0) (n1 := 3) (by omega) dQ
  have hD0 : DC 0 (fun _ => 0) dA dB dZ dG (f_J7_fill_53178 0 dP 3) (f_J7_fill_53178 0 dQ 3) 0 0 := by
    refine ⟨rfl, rfl, fun c j hc => by omega, fun c hc => ?_, fun c k w hc hk => absurd hk (Nat.not_lt_zero k), fun c k w hc hk => absurd hk (Nat.not_lt_zero k), fun g w hg => absurd hg (Nat.not_lt_zero g)⟩
    rw [fp2 c, fq2 c, if_pos hc, if_pos hc]; exact ⟨rfl, rfl⟩
  have kclear : k_X0_clear dP dQ := ⟨fp1, fq1, trivial⟩
  have hcut := cut0 ht
  have hp00 : rK 0 = nI 0 ∧ rL 0 = nI 0 := by
    have := hp.1 0 (Nat.two_pow_pos _)
    rw [sumS, sumS, sum_0, sum_0] at this
    exact this
  -- the model's reading by name
  have w1' : k_X7_readWhole mA (f_X7_text_L35 FU 0 mR).2 (nI t) (f_X7_go mA (nI t) 0 mU mY).1 (f_X7_go mA (nI t) 0 mU mY).2.1 (f_X7_go mA (nI t) 0 mU mY).2.2.1 (f_X7_go mA (nI t) 0 mU mY).2.2.2.1 0 mP (f_X7_go mA (nI t) 0 mU mY).2.2.2.2 0 := w1
  have w2' : WOut t tB 5 0 (fun _ => 0) 0 0 0 (f_X7_readWhole mA (f_X7_text_L35 FU 0 mR).2 (nI t) (f_X7_go mA (nI t) 0 mU mY).1 (f_X7_go mA (nI t) 0 mU mY).2.1 (f_X7_go mA (nI t) 0 mU mY).2.2.1 (f_X7_go mA (nI t) 0 mU mY).2.2.2.1 0 mP (f_X7_go mA (nI t) 0 mU mY).2.2.2.2 0) := w2
  have z1' : k_X7_text_L35 FU 0 mR := z1
  have g1' : k_X7_go mA (nI t) 0 := g1
  have hread : ∀ O : RdT → Prop, RunX t tB 5 0 (fun _ => 0) 0 0 O → k_X3_read tB eN dA dB dZ dG dP dQ (nI t) eK eS eU ∧ O (f_X3_read tB eN dA dB dZ dG dP dQ (nI t) eK eS eU) := by
    rintro O ⟨K, k1, k2⟩
    obtain ⟨q1, q2⟩ := k2 FU (by have := FU_big (n := 400) (by omega); omega) eN dA dB dZ dG (f_J7_fill_53178 0 dP 3) (f_J7_fill_53178 0 dQ 3) eK eS eU 0 0 0 0 hD0
    rw [f_X3_read, k_X3_read, f_X0_clear]
    exact ⟨⟨kclear, q1⟩, q2⟩
  rw [f_X6_text, k_X6_text, f_X7_text, k_X7_text]
  generalize f_X7_readWhole mA (f_X7_text_L35 FU 0 mR).2 (nI t) (f_X7_go mA (nI t) 0 mU mY).1 (f_X7_go mA (nI t) 0 mU mY).2.1 (f_X7_go mA (nI t) 0 mU mY).2.2.1 (f_X7_go mA (nI t) 0 mU mY).2.2.2.1 0 mP (f_X7_go mA (nI t) 0 mU mY).2.2.2.2 0 = W at w2' ⊢
  rcases w2' with ⟨x, x1, x2, x3, x4⟩ | ⟨nc', V', L', y1, y2, y3, y4, y5, y6, y7, y8, y9, y10, y11⟩
  · obtain ⟨r1, r2, r3, r4, r5⟩ := hread _ x4
    generalize f_X3_read tB eN dA dB dZ dG dP dQ (nI t) eK eS eU = F at r1 r2 r3 ⊢
    have gf : ¬ f_X3_faultKind F.2.2.2.2.2.2.2.2.1 = 0 := by rw [f_X3_faultKind, r3]; exact nI_ne0 (by omega) (by omega)
    rw [if_neg gf, if_neg gf, if_pos x1, if_pos x1]
    have hans : (-1) - W.2.2.2.2.2.2.2.1 = F.1 := by rw [r2, x3]
    rw [f_X7_text_L66, hans]
    refine ⟨⟨r1, trivial⟩, ⟨z1', g1', w1', trivial⟩, F.1, _, _, _, _, _, _, _, _, _, _, _, _, _, _, _, _, _, _, _, _, _, _, _, _, _, _, _, _, _, _, _, _, _, _, _, _, _, _, _, _, _, _, _, _, _, _, _, _, _, rfl, rfl, ⟨R, ⟨hR, hm, hb, hp, hl, hc⟩, hr⟩, ?_, ?_⟩
    · exact ⟨0, by omega, hcut, rfl, fun i hi => by omega⟩
    · rw [f_X3_faultKind, r3]; exact x2.symm
  · obtain ⟨r1, r2, r3, r4, r5, r6⟩ := hread _ y11
    generalize f_X3_read tB eN dA dB dZ dG dP dQ (nI t) eK eS eU = F at r1 r2 r3 r4 r5 r6 ⊢
    have gf : f_X3_faultKind F.2.2.2.2.2.2.2.2.1 = 0 := by rw [f_X3_faultKind, r3]
    have gw : ¬ W.1 = 0 := by rw [y1]; exact one0
    obtain ⟨c1, bA', bB', bZ', bG', bP', bQ', c2, c3⟩ := c_copyFrom y6 r4 bA bB bZ bG bP bQ F.2.2.2.2.2.2.2.2.2.2.2.2.2.2.2.1 F.2.2.2.2.2.2.2.2.2.2.2.2.2.2.2.2
    have hRn := rowOf_ok y6 y7 y8 y9 y10
    have n2 : rowOf nc' V' 2 = V' 2 := rowOf_ne (by omega)
    have n3 : rowOf nc' V' 3 = V' 3 := rowOf_ne (by omega)
    obtain ⟨d1, d2, d3, d4, d5, d6⟩ := c_begin hRn c3 (fun g hg => by rw [rowOf_ne (by omega)]; exact y6.2.2.2.2.2.2.2.1 g hg) (fun i i1 i2 => by rw [rowOf_ne (by omega)]; exact y6.2.2.2.2.2.2.2.2 i i1 i2) rG sZ pS sR hp00.1 hp00.2 (bL := F.2.2.2.2.2.2.2.2.2.2.2.2.2.2.2.1) (bD := F.2.2.2.2.2.2.2.2.2.2.2.2.2.2.2.2) (by rw [n2]; exact r5) (by rw [n3]; exact r6)
    obtain ⟨e1, mN', e2, e3⟩ := m_copy75 (mR := W.2.1) (mO := W.2.2.1) (mF := W.2.2.2.1) (mQ := W.2.2.2.2.1) (mU := W.2.2.2.2.2.1) (mG := W.2.2.2.2.2.2.1) (mP := W.2.2.2.2.2.2.2.1) (mL := W.2.2.2.2.2.2.2.2.2) (mY := W.2.2.2.2.2.2.2.2.1) FU 0 mN (by have := FU_big (n := 181) (by omega); omega) (by omega)
    have e2' : f_X7_text_L75 FU 0 mN W.2.1 W.2.2.1 W.2.2.2.1 W.2.2.2.2.1 W.2.2.2.2.2.1 W.2.2.2.2.2.2.1 W.2.2.2.2.2.2.2.1 W.2.2.2.2.2.2.2.2.1 W.2.2.2.2.2.2.2.2.2 = _ := e2
    rw [if_pos gf, if_pos gf, if_neg gw, if_neg gw, c2, f_X6_text_L46, k_X6_text_L46, f_X7_text_L73, k_X7_text_L73, e2']
    have hans : W.2.2.2.2.2.2.2.2.2 = F.1 := by rw [r2, y3]
    refine ⟨⟨r1, c1, d1, trivial⟩, ⟨z1', g1', w1', e1, trivial⟩, F.1, _, _, _, _, _, _, _, _, _, _, _, _, _, _, _, _, _, _, _, _, _, _, _, _, _, _, _, _, _, _, _, _, _, _, _, _, _, _, _, _, _, _, _, _, _, _, _, _, _, rfl, Prod.ext hans rfl, ⟨rowOf nc' V', ⟨hRn, ?_, c3, d2, d4, d3⟩, fun _ => rowOf nc' V', 0, 0, by omega, by omega, d5, d6, ?_, fun k hk => by omega⟩, ?_, ?_⟩
    · intro i hi
      show mN' i = _
      rw [e3 i, if_pos (by omega)]
      by_cases i0 : i = 0
      · subst i0; rw [rowOf_0]; exact y5
      · rw [rowOf_ne i0]; exact y4 i (by omega) hi
    · rfl
    · exact ⟨0, by omega, hcut, rfl, fun i hi => by omega⟩
    · rw [gf]; exact y2.symm
end TEXT
