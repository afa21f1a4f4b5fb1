/-! PURE, 29: the tape -/
def TapeOk (tB mA : Nat → Int32) (tN mK : Int32) : Prop := ∃ t : Nat, t ≤ 740 ∧ tN = nI t ∧ mK = nI t ∧ ∀ i : Nat, i < t → ∃ b : Nat, b < 256 ∧ mA i = nI b ∧ tB i = jbyte (nI b)
theorem jb_toInt (v : Int32) : (jbyte v).toInt = v.toInt.bmod (2 ^ 8) := lg_i2b_toInt v
theorem nar_jb (v : Int32) : vp_nar .byte (jbyte v) = jbyte v := by
  show (jbyte v).toInt8.toInt32 = jbyte v
  have h := lg_i2b_range v
  exact lg_i2b_small h.1 h.2
theorem jb_eq {v w : Int32} (h : v.toInt % 256 = w.toInt % 256) : jbyte v = jbyte w := by
  apply Int32.toInt_inj.mp
  rw [jb_toInt, jb_toInt]
  exact Int.bmod_eq_bmod_iff_bmod_sub_eq_zero.mpr (by
    have h1 : (v.toInt - w.toInt) % 256 = 0 := by omega
    rw [Int.bmod_def]
    have : ((2 ^ 8 : Nat) : Int) = 256 := rfl
    rw [this]
    omega)
theorem shr_toInt (x : Int32) (k : Nat) (hk : k < 32) : (x >>> nI k).toInt = x.toInt >>> k := by
  have h1 : (nI k).toBitVec.smod 32 = BitVec.ofNat 32 k := by
    rw [nI_bv]
    have : ∀ k : Fin 32, (BitVec.ofNat 32 k.val).smod 32 = BitVec.ofNat 32 k.val := by decide +kernel
    exact this ⟨k, hk⟩
  rw [← Int32.toInt_toBitVec, Int32.toBitVec_shiftRight, h1, BitVec.toInt_sshiftRight', BitVec.toNat_ofNat, Nat.mod_eq_of_lt (show k < 2 ^ 32 by omega)]
  rfl
theorem ushr_nat (x : Int32) (k : Nat) (hk : k < 32) : jushr x (nI k) &&& 255 = nI (x.toBitVec.toNat / 2 ^ k % 256) := by
  have h1 : (nI k).toUInt32 &&& Int32.toUInt32 31 = UInt32.ofNat k := by
    have : ∀ k : Fin 32, (nI k.val).toUInt32 &&& Int32.toUInt32 31 = UInt32.ofNat k.val := by decide +kernel
    exact this ⟨k, hk⟩
  rw [jushr, h1]
  apply Int32.toBitVec_inj.mp
  apply BitVec.eq_of_toNat_eq
  rw [Int32.toBitVec_and, nI_bv, BitVec.toNat_and, BitVec.toNat_ofNat]
  have h2 : ((x.toUInt32 >>> UInt32.ofNat k).toInt32).toBitVec.toNat = x.toBitVec.toNat / 2 ^ k := by
    show (x.toUInt32 >>> UInt32.ofNat k).toNat = _
    rw [UInt32.toNat_shiftRight, UInt32.toNat_ofNat', Nat.mod_eq_of_lt (show k < 2 ^ 32 by omega), Nat.mod_eq_of_lt hk, Nat.shiftRight_eq_div_pow]
    rfl
  rw [h2]
  have h3 : (255 : Int32).toBitVec.toNat = 2 ^ 8 - 1 := rfl
  rw [h3, Nat.and_two_pow_sub_one_eq_mod]
  have h4 : x.toBitVec.toNat / 2 ^ k % 256 < 256 := Nat.mod_lt _ (by omega)
  show _ % 256 = _
  generalize x.toBitVec.toNat / 2 ^ k % 256 = t at h4 ⊢
  omega
theorem byte_both (x : Int32) {k : Nat} (hk : k = 0 ∨ k = 8 ∨ k = 16 ∨ k = 24) : ∃ b : Nat, b < 256 ∧ jushr x (nI k) &&& 255 = nI b ∧ vp_nar .byte (jbyte (x >>> (nI k &&& 31))) = jbyte (nI b) := by
  have hk32 : k < 32 := by omega
  refine ⟨x.toBitVec.toNat / 2 ^ k % 256, Nat.mod_lt _ (by omega), ushr_nat x k hk32, ?_⟩
  rw [nar_jb, lit 31, nI_and, and31 hk32]
  apply jb_eq
  have h4 : x.toBitVec.toNat / 2 ^ k % 256 < 256 := Nat.mod_lt _ (by omega)
  rw [shr_toInt x k hk32, nI_toInt (by omega), Int.shiftRight_eq_div_pow]
  have h5 : x.toInt = if 2 * x.toBitVec.toNat < 2 ^ 32 then (x.toBitVec.toNat : Int) else (x.toBitVec.toNat : Int) - (2 ^ 32 : Nat) := BitVec.toInt_eq_toNat_cond x.toBitVec
  have h6 : x.toBitVec.toNat < 2 ^ 32 := x.toBitVec.isLt
  generalize x.toBitVec.toNat = N at h4 h5 h6 ⊢
  rw [h5]
  rcases hk with rfl | rfl | rfl | rfl
  · show (if 2 * N < 2 ^ 32 then (N : Int) else (N : Int) - (2 ^ 32 : Nat)) / ((2 ^ 0 : Nat) : Int) % 256 = ((N / 2 ^ 0 % 256 : Nat) : Int) % 256
    split <;> omega
  · show (if 2 * N < 2 ^ 32 then (N : Int) else (N : Int) - (2 ^ 32 : Nat)) / ((2 ^ 8 : Nat) : Int) % 256 = ((N / 2 ^ 8 % 256 : Nat) : Int) % 256
    split <;> omega
  · show (if 2 * N < 2 ^ 32 then (N : Int) else (N : Int) - (2 ^ 32 : Nat)) / ((2 ^ 16 : Nat) : Int) % 256 = ((N / 2 ^ 16 % 256 : Nat) : Int) % 256
    split <;> omega
  · show (if 2 * N < 2 ^ 32 then (N : Int) else (N : Int) - (2 ^ 32 : Nat)) / ((2 ^ 24 : Nat) : Int) % 256 = ((N / 2 ^ 24 % 256 : Nat) : Int) % 256
    split <;> omega
def TapeAt (tB mA : Nat → Int32) (t : Nat) : Prop := ∀ i : Nat, i < t → ∃ b : Nat, b < 256 ∧ mA i = nI b ∧ tB i = jbyte (nI b)
theorem tape_add {tB mA : Nat → Int32} {t b : Nat} (h : TapeAt tB mA t) (hb : b < 256) : TapeAt (upd tB t (jbyte (nI b))) (upd mA t (nI b)) (t + 1) := by
  intro i hi
  by_cases h1 : i = t
  · subst h1; exact ⟨b, hb, upd_eq, upd_eq⟩
  · rw [upd_ne h1, upd_ne h1]; exact h i (by omega)
theorem v24 : (nI 24 + (-8) : Int32) = nI 16 := by decide +kernel
theorem v16 : (nI 16 + (-8) : Int32) = nI 8 := by decide +kernel
theorem v8 : (nI 8 + (-8) : Int32) = nI 0 := by decide +kernel
theorem v0 : (nI 0 + (-8) : Int32) < 0 := by decide +kernel
theorem app_step {tB mA : Nat → Int32} {t k : Nat} (x : Int32) (ht : t < 740) (hk : k = 0 ∨ k = 8 ∨ k = 16 ∨ k = 24) (h : TapeAt tB mA t) (n : Nat) : ∃ tB' mA' : Nat → Int32, TapeAt tB' mA' (t + 1) ∧
    f_X5_append_L3 x (n + 1) (nI k) tB (nI t) = f_X5_append_L3 x n (nI k + (-8)) tB' (nI (t + 1)) ∧ k_X5_append_L3 x (n + 1) (nI k) tB (nI t) = k_X5_append_L3 x n (nI k + (-8)) tB' (nI (t + 1)) ∧
    f_X7_lays_L3 x (n + 1) (nI k) mA (nI t) = f_X7_lays_L3 x n (nI k + (-8)) mA' (nI (t + 1)) ∧ k_X7_lays_L3 x (n + 1) (nI k) mA (nI t) = (vp_in (nI t) 740 ∧ k_X7_lays_L3 x n (nI k + (-8)) mA' (nI (t + 1))) := by
  obtain ⟨b, b1, b2, b3⟩ := byte_both x hk
  refine ⟨upd tB t (jbyte (nI b)), upd mA t (nI b), tape_add h b1, ?_, ?_, ?_, ?_⟩
  · rw [f_X5_append_L3, if_neg (nI_pos (show k < 2 ^ 31 by omega)), if_neg (nI_pos (show t < 2 ^ 31 by omega)), lit 740, if_neg (nI_ge ht (by omega)), cl (show t < 2 ^ 31 by omega), b3, nI_1]
  · rw [k_X5_append_L3, if_neg (nI_pos (show k < 2 ^ 31 by omega)), if_neg (nI_pos (show t < 2 ^ 31 by omega)), lit 740, if_neg (nI_ge ht (by omega)), cl (show t < 2 ^ 31 by omega), b3, nI_1]
  · rw [f_X7_lays_L3, if_neg (nI_pos (show k < 2 ^ 31 by omega)), cl (show t < 2 ^ 31 by omega), b2, nI_1]
  · rw [k_X7_lays_L3, if_neg (nI_pos (show k < 2 ^ 31 by omega)), cl (show t < 2 ^ 31 by omega), b2, nI_1]
theorem app_one {tB mA : Nat → Int32} {t : Nat} (x : Int32) (ht : t + 4 ≤ 740) (h : TapeAt tB mA t) : ∃ tB' mA' : Nat → Int32, TapeAt tB' mA' (t + 4) ∧ f_X5_append x tB (nI t) = (tB', nI (t + 4)) ∧ k_X5_append x tB (nI t) ∧ f_X7_lays x mA (nI t) = (mA', nI (t + 4)) ∧ k_X7_lays x mA (nI t) := by
  obtain ⟨n, hn⟩ : ∃ n, FU = n + 1 + 1 + 1 + 1 + 1 := ⟨4091, FU_eq⟩
  have v (j : Nat) (hj : j < 740) : vp_in (nI j) 740 := vp_in_nI hj (by omega)
  obtain ⟨b1, m1, h1, p1, q1, r1, s1⟩ := app_step x (show t < 740 by omega) (Or.inr (Or.inr (Or.inr rfl))) h (n + 1 + 1 + 1 + 1)
  rw [v24] at p1 q1 r1 s1
  obtain ⟨b2, m2, h2, p2, q2, r2, s2⟩ := app_step x (show t + 1 < 740 by omega) (Or.inr (Or.inr (Or.inl rfl))) h1 (n + 1 + 1 + 1)
  rw [v16] at p2 q2 r2 s2
  obtain ⟨b3, m3, h3, p3, q3, r3, s3⟩ := app_step x (show t + 1 + 1 < 740 by omega) (Or.inr (Or.inl rfl)) h2 (n + 1 + 1)
  rw [v8] at p3 q3 r3 s3
  obtain ⟨b4, m4, h4, p4, q4, r4, s4⟩ := app_step x (show t + 1 + 1 + 1 < 740 by omega) (Or.inl rfl) h3 (n + 1)
  have e1 : ∀ (B : Nat → Int32) (z : Int32), f_X5_append_L3 x (n + 1) (nI 0 + (-8)) B z = (nI 0 + (-8), B, z) := by intro B z; rw [f_X5_append_L3, if_pos v0]
  have e2 : ∀ (B : Nat → Int32) (z : Int32), k_X5_append_L3 x (n + 1) (nI 0 + (-8)) B z := by intro B z; rw [k_X5_append_L3, if_pos v0]; trivial
  have e3 : ∀ (B : Nat → Int32) (z : Int32), f_X7_lays_L3 x (n + 1) (nI 0 + (-8)) B z = (nI 0 + (-8), B, z) := by intro B z; rw [f_X7_lays_L3, if_pos v0]
  have e4 : ∀ (B : Nat → Int32) (z : Int32), k_X7_lays_L3 x (n + 1) (nI 0 + (-8)) B z := by intro B z; rw [k_X7_lays_L3, if_pos v0]; trivial
  refine ⟨b4, m4, h4, ?_, ?_, ?_, ?_⟩
  · rw [f_X5_append, hn, lit 24, p1, p2, p3, p4, e1]
  · rw [k_X5_append, hn, lit 24, q1, q2, q3, q4]; exact ⟨e2 _ _, trivial⟩
  · rw [f_X7_lays, hn, lit 24, r1, r2, r3, r4, e3]
  · rw [k_X7_lays, hn, lit 24, s1, s2, s3, s4]; exact ⟨⟨v _ (by omega), v _ (by omega), v _ (by omega), v _ (by omega), e4 _ _⟩, trivial⟩
theorem t_feed {tB mA : Nat → Int32} {tN mK : Int32} (h : TapeOk tB mA tN mK) (a b c d e : Int32) :
    (f_X6_feed a b c d e tB tN).1 = (f_X7_feed a b c d e mA mK).1 ∧ k_X6_feed a b c d e tB tN ∧ k_X7_feed a b c d e mA mK ∧ TapeOk (f_X6_feed a b c d e tB tN).2.1 (f_X7_feed a b c d e mA mK).2.1 (f_X6_feed a b c d e tB tN).2.2 (f_X7_feed a b c d e mA mK).2.2.2 := by
  have hh := h
  obtain ⟨t, t1, rfl, rfl, t2⟩ := h
  rw [f_X6_feed, f_X7_feed, k_X6_feed, k_X7_feed, f_X5_hasRoomForFive, lit 20, lit 740, nI_add]
  by_cases h1 : t + 20 ≤ 740
  · have g1 : ¬ nI 740 < nI (t + 20) := nI_nlt (by omega) (by omega)
    have g2 : nI (t + 20) ≤ nI 740 := nI_le h1 (by omega)
    obtain ⟨b1, m1, o1, p1, q1, r1, s1⟩ := app_one a (show t + 4 ≤ 740 by omega) t2
    obtain ⟨b2, m2, o2, p2, q2, r2, s2⟩ := app_one b (show t + 4 + 4 ≤ 740 by omega) o1
    obtain ⟨b3, m3, o3, p3, q3, r3, s3⟩ := app_one c (show t + 4 + 4 + 4 ≤ 740 by omega) o2
    obtain ⟨b4, m4, o4, p4, q4, r4, s4⟩ := app_one d (show t + 4 + 4 + 4 + 4 ≤ 740 by omega) o3
    obtain ⟨b5, m5, o5, p5, q5, r5, s5⟩ := app_one e (show t + 4 + 4 + 4 + 4 + 4 ≤ 740 by omega) o4
    simp only [if_neg g1, if_pos g2, if_neg one0, f_X6_feed_L36, f_X7_feed_L35, k_X6_feed_L36, k_X7_feed_L35, p1, p2, p3, p4, p5, r1, r2, r3, r4, r5]
    exact ⟨rfl, ⟨q1, q2, q3, q4, q5, trivial⟩, ⟨s1, s2, s3, s4, s5, trivial⟩, t + 4 + 4 + 4 + 4 + 4, by omega, rfl, rfl, o5⟩
  · have g1 : nI 740 < nI (t + 20) := nI_lt (by omega) (by omega)
    have g2 : ¬ nI (t + 20) ≤ nI 740 := nI_ge (by omega) (by omega)
    simp only [if_pos g1, if_neg g2, if_true]
    exact ⟨trivial, trivial, trivial, hh⟩
theorem t_end {tB mA : Nat → Int32} {tN mK : Int32} (h : TapeOk tB mA tN mK) (a : Int32) : (f_X6_end a tN).1 = (f_X7_end a mK).1 ∧ k_X6_end a tN ∧ TapeOk tB mA (f_X6_end a tN).2 (f_X7_end a mK).2.2 := by
  have hh := h
  obtain ⟨t, t1, rfl, rfl, t2⟩ := h
  rw [f_X6_end, f_X7_end, k_X6_end, f_X5_cutTo]
  by_cases h1 : a < 0
  · simp only [if_pos h1]
    exact ⟨trivial, ⟨Or.inl trivial, trivial⟩, hh⟩
  · by_cases h2 : a ≤ nI t
    · simp only [if_neg h1, if_pos h2]
      refine ⟨trivial, ⟨Or.inr trivial, trivial⟩, ?_⟩
      obtain ⟨j, hj, rfl⟩ := nI_of h1
      rw [nI_leI hj (by omega)] at h2
      exact ⟨j, by omega, rfl, rfl, fun i hi => t2 i (by omega)⟩
    · simp only [if_neg h1, if_neg h2]
      exact ⟨trivial, ⟨Or.inl trivial, trivial⟩, hh⟩
