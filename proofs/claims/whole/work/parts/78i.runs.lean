/-! PURE, 38: the class's reading as runs -/
abbrev RdT : Type := Int32 × (Nat → Int32) × (Nat → Int32) × (Nat → Int32) × (Nat → Int32) × (Nat → Int32) × (Nat → Int32) × (Nat → Int32) × Int32 × Int32 × Int32 × Int32 × Int32 × Int32 × Int32 × Int32 × Int32
def CFail (x : Nat × Nat) (r : RdT) : Prop := r.1 = (-1) - nI x.2 ∧ r.2.2.2.2.2.2.2.2.1 = nI x.1 ∧ 1 ≤ x.1 ∧ x.1 ≤ 3
def CDone (L nc : Nat) (V : Nat → Nat) (r : RdT) : Prop := r.1 = nI L ∧ r.2.2.2.2.2.2.2.2.1 = 0 ∧ DC nc V r.2.2.1 r.2.2.2.1 r.2.2.2.2.1 r.2.2.2.2.2.1 r.2.2.2.2.2.2.1 r.2.2.2.2.2.2.2.1 r.2.2.2.2.2.2.2.2.2.2.2.2.2.1 r.2.2.2.2.2.2.2.2.2.2.2.2.2.2.1 ∧ r.2.2.2.2.2.2.2.2.2.2.2.2.2.2.2.1 = nI (V 2) ∧ r.2.2.2.2.2.2.2.2.2.2.2.2.2.2.2.2 = nI (V 3)
def Runs (t : Nat) (tB : Nat → Int32) (K a nc : Nat) (V : Nat → Nat) (e L : Nat) (O : RdT → Prop) : Prop := ∀ (n : Nat), K ≤ n → ∀ (eN dA dB dZ dG dP dQ : Nat → Int32) (eK eS eU dC dM dL dD : Int32), DC nc V dA dB dZ dG dP dQ dC dM →
  k_X3_read_L21 tB (nI t) n (nI a) (nI L) eN dA dB dZ dG dP dQ 0 eK eS (nI e) eU dC dM dL dD ∧ O (f_X3_read_L21 tB (nI t) n (nI a) (nI L) eN dA dB dZ dG dP dQ 0 eK eS (nI e) eU dC dM dL dD)
theorem rd_pos {b : Nat → Nat} {t : Nat} {lo hi : Nat → Nat} : ∀ (n i : Nat) (w : Nat → Nat) (e : Nat) (x : Nat × Nat), rdN b t lo hi n i w e = .inl x → 1 ≤ x.1 ∧ x.1 ≤ 3 := by
  intro n
  induction n with
  | zero => intro i w e x h; rw [rdN] at h; cases h
  | succ n ih =>
    intro i w e x h
    rw [rdN] at h
    split at h
    · split at h
      · cases h; exact ⟨Nat.le_of_ble_eq_true rfl, Nat.le_of_ble_eq_true rfl⟩
      · exact ih _ _ _ x h
    · cases h; exact ⟨Nat.le_of_ble_eq_true rfl, Nat.le_of_ble_eq_true rfl⟩
theorem lf_pos {b : Nat → Nat} {t a nc e : Nat} {V : Nat → Nat} {x : Nat × Nat} (h : LFail b t a nc V e x) : 1 ≤ x.1 ∧ x.1 ≤ 3 := by
  rcases h with ⟨_, q⟩ | ⟨_, _, q⟩ | ⟨_, _, q⟩ | ⟨_, _, w, e', _, _, q⟩
  · rw [q]; exact ⟨Nat.le_of_ble_eq_true rfl, Nat.le_of_ble_eq_true rfl⟩
  · rw [q]; exact ⟨Nat.le_of_ble_eq_true rfl, Nat.le_of_ble_eq_true rfl⟩
  · exact rd_pos _ _ _ _ x q
  · rw [q]; exact ⟨Nat.le_of_ble_eq_true rfl, Nat.le_of_ble_eq_true rfl⟩
section RUNS
variable {b : Nat → Nat} {t : Nat} {tB mA : Nat → Int32} {nc : Nat} {V : Nat → Nat}
theorem c_end (h : TapeB b t tB mA) {e : Nat} (he : e ≤ t) (eF eU : Int32) : k_X3_readEnd tB (nI t) (nI e) ∧ ((tKd b t e = 0 ∧ ∃ (k s en u : Int32), f_X3_readEnd tB (nI t) eF (nI e) eU = (1, eF, k, s, en, u)) ∨ (¬ tKd b t e = 0 ∧ ∃ (k en u : Int32), f_X3_readEnd tB (nI t) eF (nI e) eU = (0, 1, k, nI (tSt b t e), en, u))) := by
  have ht := h.1
  obtain ⟨a1, ck, en, u, a2, a3⟩ := c_adv h he eU
  refine ⟨⟨a1, trivial⟩, ?_⟩
  rw [f_X3_readEnd, a2, f_X3_fails, f_X5_size]
  by_cases h0 : tKd b t e = 0
  · have hx : ck = 1 ∧ t ≤ 700 := by
      rcases a3 with ⟨q, _⟩ | ⟨q, _⟩ | ⟨q, _⟩ | ⟨_, q1, q2⟩ | ⟨q, _⟩
      · omega
      · omega
      · omega
      · exact ⟨q1, q2⟩
      · omega
    obtain ⟨rfl, h7⟩ := hx
    have g1 : nI 1 = (1 : Int32) := rfl
    have g7 : nI t ≤ (700 : Int32) := nI_le (b := 700) h7 (by omega)
    simp only [if_pos g1, if_pos g7]
    exact Or.inl ⟨h0, _, _, _, _, rfl⟩
  · refine Or.inr ⟨h0, ?_⟩
    by_cases hk : ck = 1
    · have h7 : 700 < t := by
        rcases a3 with ⟨_, q, _⟩ | ⟨_, q, _⟩ | ⟨_, q, _⟩ | ⟨q, _⟩ | ⟨_, q | ⟨_, q⟩⟩
        · omega
        · omega
        · omega
        · omega
        · omega
        · exact q
      have g1 : nI ck = (1 : Int32) := by rw [hk]; rfl
      have g7 : ¬ nI t ≤ (700 : Int32) := nI_ge (a := 700) h7 (by omega)
      simp only [if_pos g1, if_neg g7, if_true]
      exact ⟨_, _, _, rfl⟩
    · have hck : ck < 5 := by
        rcases a3 with ⟨_, q, _⟩ | ⟨_, q, _⟩ | ⟨_, q, _⟩ | ⟨_, q, _⟩ | ⟨_, q | ⟨q, _⟩⟩ <;> omega
      have g1 : ¬ nI ck = (1 : Int32) := nI_ne (b := 1) (by omega) (by omega) hk
      simp only [if_neg g1, if_true]
      exact ⟨_, _, _, rfl⟩
theorem ru_mono {K K' a e L : Nat} {O : RdT → Prop} (h : Runs t tB K a nc V e L O) (hK : K ≤ K') : Runs t tB K' a nc V e L O := fun n hn => h n (by omega)
theorem ru_fail (h : TapeB b t tB mA) (hV : VOk nc V) {a e L : Nat} (ha : a < 6) (ha4 : ¬ a = 4) (hph : a < 3 → 1 ≤ nc) (he : e ≤ t) (hL : L ≤ 700) {x : Nat × Nat} (hx : LFail b t a nc V e x) : Runs t tB 1 a nc V e L (CFail x) := by
  intro n hn eN dA dB dZ dG dP dQ eK eS eU dC dM dL dD hD
  obtain ⟨n', rfl⟩ : ∃ n', n = n' + 1 := ⟨n - 1, by omega⟩
  obtain ⟨r1, eN', eK', eE', eU', r2⟩ := c_rlFail h hV hD ha hph he hx eN eU dL dD
  have g1 : ¬ (700 : Int32) < nI L := nI_nlt (a := 700) hL (by omega)
  have g2 : ¬ nI a = (4 : Int32) := nI_ne (b := 4) (by omega) (by omega) ha4
  rw [f_X3_read_L21, k_X3_read_L21, if_neg g1, if_neg g1, if_neg g2, if_neg g2, r2]
  simp only [if_true, f_X3_read_L44, k_X3_read_L44]
  exact ⟨⟨r1, trivial⟩, rfl, rfl, lf_pos hx⟩
theorem ru_step (h : TapeB b t tB mA) (hV : VOk nc V) {a e L l e2 K : Nat} {w : Nat → Nat} {O : RdT → Prop} (ha : a < 6) (ha4 : ¬ a = 4) (hph : a < 3 → 1 ≤ nc) (he : e ≤ t) (hL : L ≤ 700) (hx : LGood b t a nc V e l w e2) (hl4 : ¬ l = 4) (hr : Runs t tB K l (nextC nc l) (nextV nc l V w) e2 (L + 1) O) : Runs t tB (K + 1) a nc V e L O := by
  intro n hn eN dA dB dZ dG dP dQ eK eS eU dC dM dL dD hD
  obtain ⟨n', rfl⟩ : ∃ n', n = n' + 1 := ⟨n - 1, by omega⟩
  have h5 : l < 5 := hx.1.2.2.1
  obtain ⟨_, _, _, r1, eN', dA', dB', dZ', dG', dP', dQ', eK', eS', eU', dC', dM', dL', dD', r2, r3, r4⟩ := c_rlGood h hV hD ha hph he hx eN eU dL dD
  have g1 : ¬ (700 : Int32) < nI L := nI_nlt (a := 700) hL (by omega)
  have g2 : ¬ nI a = (4 : Int32) := nI_ne (b := 4) (by omega) (by omega) ha4
  have g3 : ¬ nI l = (-1 : Int32) := nI_ne_neg M1_neg (by omega)
  have g4 : ¬ nI l = (4 : Int32) := nI_ne (b := 4) (by omega) (by omega) hl4
  obtain ⟨q1, q2⟩ := hr n' (by omega) eN' dA' dB' dZ' dG' dP' dQ' eK' eS' eU' dC' dM' dL' dD' r3
  rw [f_X3_read_L21, k_X3_read_L21, if_neg g1, if_neg g1, if_neg g2, if_neg g2, r2]
  simp only [if_neg g3, if_neg g4, nI_1]
  exact ⟨⟨r1, q1⟩, q2⟩
theorem nc4 : nextC nc 4 = nc := rfl
theorem nv4 {w : Nat → Nat} : nextV nc 4 V w = putL V 2 2 w := by rw [nextV, if_neg (by omega), if_neg (by omega), if_neg (by omega), if_neg (by omega)]
theorem nv4_2 {w : Nat → Nat} : nextV nc 4 V w 2 = w 0 := by rw [nv4]; exact putL_in (V := V) (w := w) (base := 2) (n := 2) (i := 0) (by omega)
theorem nv4_3 {w : Nat → Nat} : nextV nc 4 V w 3 = w 1 := by rw [nv4]; exact putL_in (V := V) (w := w) (base := 2) (n := 2) (i := 1) (by omega)
theorem ru_done (h : TapeB b t tB mA) (hV : VOk nc V) {a e L e2 : Nat} {w : Nat → Nat} (ha : a < 6) (ha4 : ¬ a = 4) (hph : a < 3 → 1 ≤ nc) (he : e ≤ t) (hL : L ≤ 700) (hx : LGood b t a nc V e 4 w e2) (h0 : tKd b t e2 = 0) : Runs t tB 1 a nc V e L (CDone (L + 1) nc (nextV nc 4 V w)) := by
  intro n hn eN dA dB dZ dG dP dQ eK eS eU dC dM dL dD hD
  obtain ⟨n', rfl⟩ : ∃ n', n = n' + 1 := ⟨n - 1, by omega⟩
  obtain ⟨_, _, e2t, r1, eN', dA', dB', dZ', dG', dP', dQ', eK', eS', eU', dC', dM', dL', dD', r2, r3, r4⟩ := c_rlGood h hV hD ha hph he hx eN eU dL dD
  have g1 : ¬ (700 : Int32) < nI L := nI_nlt (a := 700) hL (by omega)
  have g2 : ¬ nI a = (4 : Int32) := nI_ne (b := 4) (by omega) (by omega) ha4
  have g3 : ¬ nI 4 = (-1 : Int32) := by decide
  have g4 : nI 4 = (4 : Int32) := rfl
  obtain ⟨d1, d2⟩ := r4 rfl
  obtain ⟨z1, z2⟩ := c_end h e2t 0 eU'
  rw [f_X3_read_L21, k_X3_read_L21, if_neg g1, if_neg g1, if_neg g2, if_neg g2, r2]
  simp only [if_neg g3, if_pos g4]
  rcases z2 with ⟨_, k, s, en, u, z3⟩ | ⟨z3, _⟩
  · rw [z3]
    simp only [if_neg one0, f_X3_read_L65, k_X3_read_L65, nI_1]
    refine ⟨⟨r1, z1, trivial⟩, rfl, rfl, r3, ?_, ?_⟩
    · rw [nv4_2]; exact d1
    · rw [nv4_3]; exact d2
  · exact absurd h0 z3
theorem ru_bad (h : TapeB b t tB mA) (hV : VOk nc V) {a e L e2 : Nat} {w : Nat → Nat} (ha : a < 6) (ha4 : ¬ a = 4) (hph : a < 3 → 1 ≤ nc) (he : e ≤ t) (hL : L ≤ 700) (hx : LGood b t a nc V e 4 w e2) (h0 : ¬ tKd b t e2 = 0) : Runs t tB 2 a nc V e L (CFail (1, tSt b t e2)) := by
  intro n hn eN dA dB dZ dG dP dQ eK eS eU dC dM dL dD hD
  obtain ⟨n', rfl⟩ : ∃ n', n = n' + 1 + 1 := ⟨n - 2, by omega⟩
  obtain ⟨_, _, e2t, r1, eN', dA', dB', dZ', dG', dP', dQ', eK', eS', eU', dC', dM', dL', dD', r2, r3, r4⟩ := c_rlGood h hV hD ha hph he hx eN eU dL dD
  have g1 : ¬ (700 : Int32) < nI L := nI_nlt (a := 700) hL (by omega)
  have g2 : ¬ nI a = (4 : Int32) := nI_ne (b := 4) (by omega) (by omega) ha4
  have g3 : ¬ nI 4 = (-1 : Int32) := by decide
  have g4 : nI 4 = (4 : Int32) := rfl
  obtain ⟨z1, z2⟩ := c_end h e2t 0 eU'
  rw [f_X3_read_L21, k_X3_read_L21, if_neg g1, if_neg g1, if_neg g2, if_neg g2, r2]
  simp only [if_neg g3, if_pos g4]
  rcases z2 with ⟨z3, _⟩ | ⟨_, k, en, u, z3⟩
  · exact absurd z3 h0
  · rw [z3]
    simp only [if_true]
    rw [f_X3_read_L21, k_X3_read_L21, if_pos g4, if_pos g4]
    by_cases g5 : (700 : Int32) < nI L + 1
    · rw [if_pos g5, if_pos g5]; exact ⟨⟨r1, z1, trivial⟩, rfl, rfl, Nat.le_of_ble_eq_true rfl, Nat.le_of_ble_eq_true rfl⟩
    · rw [if_neg g5, if_neg g5]; exact ⟨⟨r1, z1, trivial⟩, rfl, rfl, Nat.le_of_ble_eq_true rfl, Nat.le_of_ble_eq_true rfl⟩
end RUNS
