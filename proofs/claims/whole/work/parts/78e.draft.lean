/-! PURE, 34: the draft; lines added to it -/
def putL (V : Nat → Nat) (base n : Nat) (w : Nat → Nat) : Nat → Nat := fun i => if base ≤ i ∧ i < base + n then w (i - base) else V i
theorem putL_in {V w : Nat → Nat} {base n i : Nat} (h : i < n) : putL V base n w (base + i) = w i := by
  rw [putL, if_pos ⟨by omega, by omega⟩]; congr 1; omega
theorem putL_out {V w : Nat → Nat} {base n i : Nat} (h : i < base ∨ base + n ≤ i) : putL V base n w i = V i := by
  rw [putL, if_neg (by omega)]
def cntL (l : Nat) : Nat := [6, 4, 5, 3, 2].getD l 0
def loT : List Nat := [1, 1, 1, 0, 1, 0, 1, 0, 0, 0, 0, 0, 0, 0, 0, 0, 0, 0, 1, 1, 1, 0, 0, 0, 0, 0, 0, 0, 0, 0]
def hiT : List Nat := [99, 999, 99, 99, 999, 999, 99, 999, 999, 999, 0, 0, 99, 3, 3, 3, 3, 0, 99, 999, 999, 0, 0, 0, 3, 99, 0, 0, 0, 0]
def loN (V : Nat → Nat) (c l i : Nat) : Nat := if l = 1 ∧ i = 0 ∧ ¬ V (10 + 43 * c) = 0 then V (11 + 43 * c + 4 * (V (10 + 43 * c) - 1)) + 1 else if l = 2 ∧ i = 0 ∧ ¬ V (31 + 43 * c) = 0 then V (32 + 43 * c + 5 * (V (31 + 43 * c) - 1)) + 1 else loT.getD (6 * l + i) 0
def hiN (V : Nat → Nat) (c l i : Nat) : Nat := if l = 2 ∧ i = 0 ∧ V (31 + 43 * c) = 0 then 0 else hiT.getD (6 * l + i) 0
def nextV (nc l : Nat) (V w : Nat → Nat) : Nat → Nat :=
  if l = 0 then putL V (4 + 43 * nc) 6 w
  else if l = 1 then updN (putL V (11 + 43 * (nc - 1) + 4 * V (10 + 43 * (nc - 1))) 4 w) (10 + 43 * (nc - 1)) (V (10 + 43 * (nc - 1)) + 1)
  else if l = 2 then updN (putL V (32 + 43 * (nc - 1) + 5 * V (31 + 43 * (nc - 1))) 5 w) (31 + 43 * (nc - 1)) (V (31 + 43 * (nc - 1)) + 1)
  else if l = 3 then updN (putL V (133 + 4 * V 1) 3 w) 1 (V 1 + 1)
  else putL V 2 2 w
def nextC (nc l : Nat) : Nat := if l = 0 then nc + 1 else nc
def DC (nc : Nat) (V : Nat → Nat) (dA dB dZ dG dP dQ : Nat → Int32) (dC dM : Int32) : Prop :=
  dC = nI nc ∧ dM = nI (V 1) ∧ (∀ c j : Nat, c < nc → j < 6 → dA (6 * c + j) = nI (V (4 + 43 * c + j))) ∧ (∀ c : Nat, c < 3 → dP c = nI (V (10 + 43 * c)) ∧ dQ c = nI (V (31 + 43 * c))) ∧
  (∀ c k w : Nat, c < 3 → k < V (10 + 43 * c) → w < 4 → dB (20 * c + 4 * k + w) = nI (V (11 + 43 * c + 4 * k + w))) ∧ (∀ c k w : Nat, c < 3 → k < V (31 + 43 * c) → w < 5 → dZ (15 * c + 5 * k + w) = nI (V (32 + 43 * c + 5 * k + w))) ∧
  (∀ g w : Nat, g < V 1 → w < 3 → dG (3 * g + w) = nI (V (133 + 4 * g + w)))
def VOk (nc : Nat) (V : Nat → Nat) : Prop := nc ≤ 3 ∧ V 1 ≤ 8 ∧ (∀ c : Nat, c < 3 → V (10 + 43 * c) ≤ 5 ∧ V (31 + 43 * c) ≤ 3 ∧ (nc ≤ c → V (10 + 43 * c) = 0 ∧ V (31 + 43 * c) = 0)) ∧
  (∀ c : Nat, c < nc → (1 ≤ V (4 + 43 * c) ∧ V (4 + 43 * c) ≤ 99) ∧ (1 ≤ V (5 + 43 * c) ∧ V (5 + 43 * c) ≤ 999) ∧ (1 ≤ V (6 + 43 * c) ∧ V (6 + 43 * c) ≤ 99) ∧ V (7 + 43 * c) ≤ 99 ∧ (1 ≤ V (8 + 43 * c) ∧ V (8 + 43 * c) ≤ 999) ∧ V (9 + 43 * c) ≤ 999) ∧
  (∀ c k : Nat, c < nc → k < V (10 + 43 * c) → (1 ≤ V (11 + 43 * c + 4 * k) ∧ V (11 + 43 * c + 4 * k) ≤ 99) ∧ ∀ z : Nat, z < 3 → V (12 + 43 * c + 4 * k + z) ≤ 999) ∧
  (∀ c k : Nat, c < nc → k < V (31 + 43 * c) → V (32 + 43 * c + 5 * k) ≤ 99 ∧ ∀ w : Nat, w < 4 → V (33 + 43 * c + 5 * k + w) ≤ 3) ∧
  (∀ g : Nat, g < V 1 → (1 ≤ V (133 + 4 * g) ∧ V (133 + 4 * g) ≤ 99) ∧ (1 ≤ V (134 + 4 * g) ∧ V (134 + 4 * g) ≤ 999) ∧ (1 ≤ V (135 + 4 * g) ∧ V (135 + 4 * g) ≤ 999)) ∧
  (∀ g : Nat, g < 8 → V (136 + 4 * g) = 0) ∧ (∀ i : Nat, 165 ≤ i → i < 181 → V i = 0)
def fullL (nc : Nat) (V : Nat → Nat) (l : Nat) : Prop := (l = 0 ∧ nc = 3) ∨ (l = 1 ∧ V (10 + 43 * (nc - 1)) = 5) ∨ (l = 2 ∧ V (31 + 43 * (nc - 1)) = 3) ∨ (l = 3 ∧ V 1 = 8)
section DRAFT
variable {nc : Nat} {V w : Nat → Nat} {dA dB dZ dG dP dQ eN : Nat → Int32} {dC dM dL dD : Int32}
theorem dc_0 (hV : VOk nc V) (hf : ¬ nc = 3) (h : DC nc V dA dB dZ dG dP dQ dC dM) (hw : ∀ j : Nat, j < 6 → eN j = nI (w j)) : k_X6_copy 0 (dC * 6) 6 eN dA 6 18 ∧ DC (nc + 1) (putL V (4 + 43 * nc) 6 w) (f_X6_copy 0 (dC * 6) 6 eN dA 6 18) dB dZ dG dP dQ (dC + 1) dM := by
  have hn := hV.1
  obtain ⟨h1, h2, h3, h4, h5, h6, h7⟩ := h
  subst h1
  have hb := hV.2.2.1
  obtain ⟨k1, k2⟩ := copyN (a := 0) (b := nc * 6) (c := 6) (n1 := 6) (n2 := 18) (gg := eN) (by omega) (by omega) (by omega) (by omega) (by omega) dA
  have e6 : nI nc * 6 = nI (nc * 6) := by rw [lit 6, nI_mul]
  rw [e6]
  refine ⟨k1, nI_1 nc, ?_, ?_, ?_, ?_, ?_, ?_⟩
  · rw [putL_out (by omega)]; exact h2
  · intro c j hc hj
    refine (k2 (6 * c + j)).trans ?_
    by_cases hcn : c = nc
    · subst hcn
      rw [if_pos (by omega), putL_in hj, show 0 + (6 * c + j - c * 6) = j by omega]; exact hw j hj
    · rw [if_neg (by omega), putL_out (by omega)]; exact h3 c j (by omega) hj
  · intro c hc
    rw [putL_out (by omega), putL_out (by omega)]; exact h4 c hc
  · intro c k x hc hk hx
    rw [putL_out (by omega)] at hk
    have := (hb c hc).1
    rw [putL_out (by rcases Nat.lt_trichotomy c nc with q | q | q <;> omega)]; exact h5 c k x hc hk hx
  · intro c k x hc hk hx
    rw [putL_out (by omega)] at hk
    have := (hb c hc).2.1
    rw [putL_out (by rcases Nat.lt_trichotomy c nc with q | q | q <;> omega)]; exact h6 c k x hc hk hx
  · intro g x hg hx
    rw [putL_out (by omega)] at hg
    rw [putL_out (by omega)]; exact h7 g x hg hx
theorem pred_nc (h : 1 ≤ nc) : nI nc - 1 = nI (nc - 1) := nI_sub (b := 1) h
theorem dc_1 (hV : VOk nc V) (hc1 : 1 ≤ nc) (hf : ¬ V (10 + 43 * (nc - 1)) = 5) (h : DC nc V dA dB dZ dG dP dQ dC dM) (hw : ∀ j : Nat, j < 4 → eN j = nI (w j)) :
    k_X6_copy 0 (f_X0_breakStart (dC - 1) (f_X0_breakCount (dC - 1) dP)) 4 eN dB 6 60 ∧ DC nc (updN (putL V (11 + 43 * (nc - 1) + 4 * V (10 + 43 * (nc - 1))) 4 w) (10 + 43 * (nc - 1)) (V (10 + 43 * (nc - 1)) + 1)) dA (f_X6_copy 0 (f_X0_breakStart (dC - 1) (f_X0_breakCount (dC - 1) dP)) 4 eN dB 6 60) dZ dG (f_X6_store (dC - 1) ((f_X0_breakCount (dC - 1) dP) + 1) dP 3) dQ dC dM := by
  have hn := hV.1
  obtain ⟨h1, h2, h3, h4, h5, h6, h7⟩ := h
  subst h1
  have hb := hV.2.2.1
  obtain ⟨m, rfl⟩ : ∃ m, nc = m + 1 := ⟨nc - 1, by omega⟩
  have hm : m < 3 := by omega
  simp only [Nat.add_sub_cancel] at hf ⊢
  have hbm := hb m hm
  have ec : f_X0_breakCount (nI (m + 1) - 1) dP = nI (V (10 + 43 * m)) := by rw [pred_nc (by omega), f_X0_breakCount, Nat.add_sub_cancel, at_in hm (by omega), (h4 m hm).1]
  have es : f_X0_breakStart (nI (m + 1) - 1) (nI (V (10 + 43 * m))) = nI (20 * m + 4 * V (10 + 43 * m)) := by
    rw [pred_nc (by omega), f_X0_breakStart, Nat.add_sub_cancel, lit 5, lit 4, nI_mul, nI_add, nI_mul]; congr 1; omega
  have est : f_X6_store (nI (m + 1) - 1) (nI (V (10 + 43 * m)) + 1) dP 3 = upd dP m (nI (V (10 + 43 * m) + 1)) := by rw [pred_nc (by omega), Nat.add_sub_cancel, nI_1, st_in hm (by omega)]
  obtain ⟨k1, k2⟩ := copyN (a := 0) (b := 20 * m + 4 * V (10 + 43 * m)) (c := 4) (n1 := 6) (n2 := 60) (gg := eN) (by omega) (by omega) (by omega) (by omega) (by omega) dB
  rw [ec, es, est]
  refine ⟨k1, rfl, ?_, ?_, ?_, ?_, ?_, ?_⟩
  · rw [updN_ne (by omega), putL_out (by omega)]; exact h2
  · intro c j hc hj
    rw [updN_ne (by omega), putL_out (by omega)]; exact h3 c j hc hj
  · intro c hc
    rw [updN_ne (show 31 + 43 * c ≠ 10 + 43 * m by omega), putL_out (show 31 + 43 * c < 11 + 43 * m + 4 * V (10 + 43 * m) ∨ 11 + 43 * m + 4 * V (10 + 43 * m) + 4 ≤ 31 + 43 * c by rcases Nat.lt_trichotomy c m with q | q | q <;> omega)]
    refine ⟨?_, (h4 c hc).2⟩
    by_cases hcm : c = m
    · subst hcm; rw [upd_eq, updN_eq]
    · rw [upd_ne hcm, updN_ne (by omega), putL_out (by omega)]; exact (h4 c hc).1
  · intro c k x hc hk hx
    refine (k2 (20 * c + 4 * k + x)).trans ?_
    by_cases hcm : c = m
    · subst hcm
      rw [updN_eq] at hk
      rw [updN_ne (by omega)]
      by_cases hkk : k = V (10 + 43 * c)
      · subst hkk
        rw [if_pos (by omega), putL_in hx, show 0 + (20 * c + 4 * V (10 + 43 * c) + x - (20 * c + 4 * V (10 + 43 * c))) = x by omega]; exact hw x hx
      · rw [if_neg (by omega), putL_out (by omega)]; exact h5 c k x hc (by omega) hx
    · rw [updN_ne (by omega), putL_out (by omega)] at hk
      have := hb c hc
      rw [if_neg (by omega), updN_ne (by omega), putL_out (by omega)]; exact h5 c k x hc hk hx
  · intro c k x hc hk hx
    rw [updN_ne (by omega), putL_out (by rcases Nat.lt_trichotomy c m with q | q | q <;> omega)] at hk
    have := hb c hc
    rw [updN_ne (by omega), putL_out (by omega)]; exact h6 c k x hc hk hx
  · intro g x hg hx
    rw [updN_ne (by omega), putL_out (by omega)] at hg
    rw [updN_ne (by omega), putL_out (by omega)]; exact h7 g x hg hx
theorem dc_2 (hV : VOk nc V) (hc1 : 1 ≤ nc) (hf : ¬ V (31 + 43 * (nc - 1)) = 3) (h : DC nc V dA dB dZ dG dP dQ dC dM) (hw : ∀ j : Nat, j < 5 → eN j = nI (w j)) :
    k_X6_copy 0 (f_X0_zonesStart (dC - 1) (f_X0_zonesCount (dC - 1) dQ)) 5 eN dZ 6 45 ∧ DC nc (updN (putL V (32 + 43 * (nc - 1) + 5 * V (31 + 43 * (nc - 1))) 5 w) (31 + 43 * (nc - 1)) (V (31 + 43 * (nc - 1)) + 1)) dA dB (f_X6_copy 0 (f_X0_zonesStart (dC - 1) (f_X0_zonesCount (dC - 1) dQ)) 5 eN dZ 6 45) dG dP (f_X6_store (dC - 1) ((f_X0_zonesCount (dC - 1) dQ) + 1) dQ 3) dC dM := by
  have hn := hV.1
  obtain ⟨h1, h2, h3, h4, h5, h6, h7⟩ := h
  subst h1
  have hb := hV.2.2.1
  obtain ⟨m, rfl⟩ : ∃ m, nc = m + 1 := ⟨nc - 1, by omega⟩
  have hm : m < 3 := by omega
  simp only [Nat.add_sub_cancel] at hf ⊢
  have hbm := hb m hm
  have ec : f_X0_zonesCount (nI (m + 1) - 1) dQ = nI (V (31 + 43 * m)) := by rw [pred_nc (by omega), f_X0_zonesCount, Nat.add_sub_cancel, at_in hm (by omega), (h4 m hm).2]
  have es : f_X0_zonesStart (nI (m + 1) - 1) (nI (V (31 + 43 * m))) = nI (15 * m + 5 * V (31 + 43 * m)) := by
    rw [pred_nc (by omega), f_X0_zonesStart, Nat.add_sub_cancel, lit 3, lit 5, nI_mul, nI_add, nI_mul]; congr 1; omega
  have est : f_X6_store (nI (m + 1) - 1) (nI (V (31 + 43 * m)) + 1) dQ 3 = upd dQ m (nI (V (31 + 43 * m) + 1)) := by rw [pred_nc (by omega), Nat.add_sub_cancel, nI_1, st_in hm (by omega)]
  obtain ⟨k1, k2⟩ := copyN (a := 0) (b := 15 * m + 5 * V (31 + 43 * m)) (c := 5) (n1 := 6) (n2 := 45) (gg := eN) (by omega) (by omega) (by omega) (by omega) (by omega) dZ
  rw [ec, es, est]
  refine ⟨k1, rfl, ?_, ?_, ?_, ?_, ?_, ?_⟩
  · rw [updN_ne (by omega), putL_out (by omega)]; exact h2
  · intro c j hc hj
    rw [updN_ne (by omega), putL_out (by omega)]; exact h3 c j hc hj
  · intro c hc
    rw [updN_ne (show 10 + 43 * c ≠ 31 + 43 * m by omega), putL_out (show 10 + 43 * c < 32 + 43 * m + 5 * V (31 + 43 * m) ∨ 32 + 43 * m + 5 * V (31 + 43 * m) + 5 ≤ 10 + 43 * c by rcases Nat.lt_trichotomy c m with q | q | q <;> omega)]
    refine ⟨(h4 c hc).1, ?_⟩
    by_cases hcm : c = m
    · subst hcm; rw [upd_eq, updN_eq]
    · rw [upd_ne hcm, updN_ne (by omega), putL_out (by omega)]; exact (h4 c hc).2
  · intro c k x hc hk hx
    rw [updN_ne (by omega), putL_out (by rcases Nat.lt_trichotomy c m with q | q | q <;> omega)] at hk
    have := hb c hc
    rw [updN_ne (by omega), putL_out (by omega)]; exact h5 c k x hc hk hx
  · intro c k x hc hk hx
    refine (k2 (15 * c + 5 * k + x)).trans ?_
    by_cases hcm : c = m
    · subst hcm
      rw [updN_eq] at hk
      rw [updN_ne (by omega)]
      by_cases hkk : k = V (31 + 43 * c)
      · subst hkk
        rw [if_pos (by omega), putL_in hx, show 0 + (15 * c + 5 * V (31 + 43 * c) + x - (15 * c + 5 * V (31 + 43 * c))) = x by omega]; exact hw x hx
      · rw [if_neg (by omega), putL_out (by omega)]; exact h6 c k x hc (by omega) hx
    · rw [updN_ne (by omega), putL_out (by omega)] at hk
      have := hb c hc
      rw [if_neg (by omega), updN_ne (by omega), putL_out (by omega)]; exact h6 c k x hc hk hx
  · intro g x hg hx
    rw [updN_ne (by omega), putL_out (by omega)] at hg
    rw [updN_ne (by omega), putL_out (by omega)]; exact h7 g x hg hx
theorem dc_3 (hV : VOk nc V) (hf : ¬ V 1 = 8) (h : DC nc V dA dB dZ dG dP dQ dC dM) (hw : ∀ j : Nat, j < 3 → eN j = nI (w j)) :
    k_X6_copy 0 (dM * 3) 3 eN dG 6 24 ∧ DC nc (updN (putL V (133 + 4 * V 1) 3 w) 1 (V 1 + 1)) dA dB dZ (f_X6_copy 0 (dM * 3) 3 eN dG 6 24) dP dQ dC (dM + 1) := by
  have hn := hV.1
  have h8 := hV.2.1
  obtain ⟨h1, h2, h3, h4, h5, h6, h7⟩ := h
  subst h1
  subst h2
  have hb := hV.2.2.1
  obtain ⟨k1, k2⟩ := copyN (a := 0) (b := V 1 * 3) (c := 3) (n1 := 6) (n2 := 24) (gg := eN) (by omega) (by omega) (by omega) (by omega) (by omega) dG
  have e3 : nI (V 1) * 3 = nI (V 1 * 3) := by rw [lit 3, nI_mul]
  rw [e3]
  refine ⟨k1, rfl, ?_, ?_, ?_, ?_, ?_, ?_⟩
  · rw [updN_eq]; exact nI_1 _
  · intro c j hc hj
    rw [updN_ne (by omega), putL_out (by omega)]; exact h3 c j hc hj
  · intro c hc
    rw [updN_ne (by omega), putL_out (by omega), updN_ne (by omega), putL_out (by omega)]; exact h4 c hc
  · intro c k x hc hk hx
    rw [updN_ne (by omega), putL_out (by omega)] at hk
    have := hb c hc
    rw [updN_ne (by omega), putL_out (by omega)]; exact h5 c k x hc hk hx
  · intro c k x hc hk hx
    rw [updN_ne (by omega), putL_out (by omega)] at hk
    have := hb c hc
    rw [updN_ne (by omega), putL_out (by omega)]; exact h6 c k x hc hk hx
  · intro g x hg hx
    rw [updN_eq] at hg
    refine (k2 (3 * g + x)).trans ?_
    rw [updN_ne (by omega)]
    by_cases hgg : g = V 1
    · subst hgg
      rw [if_pos (by omega), putL_in hx, show 0 + (3 * V 1 + x - V 1 * 3) = x by omega]; exact hw x hx
    · rw [if_neg (by omega), putL_out (by omega)]; exact h7 g x (by omega) hx
theorem dc_4 (hV : VOk nc V) (h : DC nc V dA dB dZ dG dP dQ dC dM) : DC nc (putL V 2 2 w) dA dB dZ dG dP dQ dC dM := by
  have hn := hV.1
  obtain ⟨h1, h2, h3, h4, h5, h6, h7⟩ := h
  refine ⟨h1, ?_, ?_, ?_, ?_, ?_, ?_⟩
  · rw [putL_out (by omega)]; exact h2
  · intro c j hc hj; rw [putL_out (by omega)]; exact h3 c j hc hj
  · intro c hc; rw [putL_out (by omega), putL_out (by omega)]; exact h4 c hc
  · intro c k x hc hk hx; rw [putL_out (by omega)] at hk; rw [putL_out (by omega)]; exact h5 c k x hc hk hx
  · intro c k x hc hk hx; rw [putL_out (by omega)] at hk; rw [putL_out (by omega)]; exact h6 c k x hc hk hx
  · intro g x hg hx; rw [putL_out (by omega)] at hg; rw [putL_out (by omega)]; exact h7 g x hg hx
/-- a line added -/
theorem dc_add {l : Nat} (hl : l < 5) (hV : VOk nc V) (hc1 : l = 1 ∨ l = 2 → 1 ≤ nc) (hf : ¬ fullL nc V l) (h : DC nc V dA dB dZ dG dP dQ dC dM) (hw : ∀ j : Nat, j < cntL l → eN j = nI (w j)) (dL dD : Int32) :
    k_X0_addLine (nI l) eN dA dB dZ dG dP dQ dC dM 6 ∧ ∃ (dA' dB' dZ' dG' dP' dQ' : Nat → Int32) (dC' dM' dL' dD' : Int32), f_X0_addLine (nI l) eN dA dB dZ dG dP dQ dC dM dL dD 6 = (dA', dB', dZ', dG', dP', dQ', dC', dM', dL', dD') ∧ DC (nextC nc l) (nextV nc l V w) dA' dB' dZ' dG' dP' dQ' dC' dM' ∧ (l = 4 → dL' = nI (w 0) ∧ dD' = nI (w 1)) := by
  rw [f_X0_addLine, k_X0_addLine, nextC, nextV]
  rcases (show l = 0 ∨ l = 1 ∨ l = 2 ∨ l = 3 ∨ l = 4 by omega) with rfl | rfl | rfl | rfl | rfl
  · obtain ⟨a1, a2⟩ := dc_0 hV (fun q => hf (Or.inl ⟨rfl, q⟩)) h hw
    have g0 : nI 0 = (0 : Int32) := rfl
    simp only [if_pos g0, if_true]
    exact ⟨⟨a1, trivial⟩, _, _, _, _, _, _, _, _, _, _, rfl, a2, fun q => by omega⟩
  · obtain ⟨a1, a2⟩ := dc_1 hV (hc1 (Or.inl rfl)) (fun q => hf (Or.inr (Or.inl ⟨rfl, q⟩))) h hw
    have g0 : ¬ nI 1 = (0 : Int32) := by decide
    have g1 : nI 1 = (1 : Int32) := rfl
    simp only [if_neg g0, if_pos g1, if_true, if_neg (show ¬ 1 = 0 by decide)]
    exact ⟨⟨a1, trivial⟩, _, _, _, _, _, _, _, _, _, _, rfl, a2, fun q => by omega⟩
  · obtain ⟨a1, a2⟩ := dc_2 hV (hc1 (Or.inr rfl)) (fun q => hf (Or.inr (Or.inr (Or.inl ⟨rfl, q⟩)))) h hw
    have g0 : ¬ nI 2 = (0 : Int32) := by decide
    have g1 : ¬ nI 2 = (1 : Int32) := by decide
    have g2 : nI 2 = (2 : Int32) := rfl
    simp only [if_neg g0, if_neg g1, if_pos g2, if_true, if_neg (show ¬ 2 = 0 by decide), if_neg (show ¬ 2 = 1 by decide)]
    exact ⟨⟨a1, trivial⟩, _, _, _, _, _, _, _, _, _, _, rfl, a2, fun q => by omega⟩
  · obtain ⟨a1, a2⟩ := dc_3 hV (fun q => hf (Or.inr (Or.inr (Or.inr ⟨rfl, q⟩)))) h hw
    have g0 : ¬ nI 3 = (0 : Int32) := by decide
    have g1 : ¬ nI 3 = (1 : Int32) := by decide
    have g2 : ¬ nI 3 = (2 : Int32) := by decide
    have g3 : nI 3 = (3 : Int32) := rfl
    simp only [if_neg g0, if_neg g1, if_neg g2, if_pos g3, if_true, if_neg (show ¬ 3 = 0 by decide), if_neg (show ¬ 3 = 1 by decide), if_neg (show ¬ 3 = 2 by decide)]
    exact ⟨⟨a1, trivial⟩, _, _, _, _, _, _, _, _, _, _, rfl, a2, fun q => by omega⟩
  · have g0 : ¬ nI 4 = (0 : Int32) := by decide
    have g1 : ¬ nI 4 = (1 : Int32) := by decide
    have g2 : ¬ nI 4 = (2 : Int32) := by decide
    have g3 : ¬ nI 4 = (3 : Int32) := by decide
    have g4 : nI 4 = (4 : Int32) := rfl
    have e0 : f_X6_at 0 eN 6 = nI (w 0) := (at_in (i := 0) (f := eN) (by omega) (by omega)).trans (hw 0 (by decide))
    have e1 : f_X6_at 1 eN 6 = nI (w 1) := (at_in (i := 1) (f := eN) (by omega) (by omega)).trans (hw 1 (by decide))
    simp only [if_neg g0, if_neg g1, if_neg g2, if_neg g3, if_pos g4, if_neg (show ¬ 4 = 0 by decide), if_neg (show ¬ 4 = 1 by decide), if_neg (show ¬ 4 = 2 by decide), if_neg (show ¬ 4 = 3 by decide), e0, e1]
    exact ⟨trivial, _, _, _, _, _, _, _, _, _, _, rfl, dc_4 hV h, fun _ => ⟨rfl, rfl⟩⟩
end DRAFT
