/-! PURE, 1: numbers of 32 bits that are naturals -/
theorem lit (n : Nat) : (OfNat.ofNat n : Int32) = nI n := rfl
theorem nI_bv (a : Nat) : (nI a).toBitVec = BitVec.ofNat 32 a := rfl
theorem nI_mul (a b : Nat) : nI a * nI b = nI (a * b) := (Int32.ofNat_mul a b).symm
theorem nI_sub {a b : Nat} (h : b ≤ a) : nI a - nI b = nI (a - b) := by
  have h1 : nI (a - b) + nI b = nI a := by rw [nI_add]; congr 1; omega
  rw [← h1, Int32.add_sub_cancel]
theorem nI_and {a b : Nat} : nI a &&& nI b = nI (a &&& b) := by
  apply Int32.toBitVec_inj.mp
  rw [Int32.toBitVec_and, nI_bv, nI_bv, nI_bv]
  exact (BitVec.ofNat_and).symm
theorem nI_or {a b : Nat} : nI a ||| nI b = nI (a ||| b) := by
  apply Int32.toBitVec_inj.mp
  rw [Int32.toBitVec_or, nI_bv, nI_bv, nI_bv]
  exact (BitVec.ofNat_or).symm
theorem nI_xor {a b : Nat} : nI a ^^^ nI b = nI (a ^^^ b) := by
  apply Int32.toBitVec_inj.mp
  rw [Int32.toBitVec_xor, nI_bv, nI_bv, nI_bv]
  exact (BitVec.ofNat_xor).symm
theorem nI_div {a b : Nat} (ha : a < 2 ^ 31) (hb : b < 2 ^ 31) : nI a / nI b = nI (a / b) := by
  apply Int32.toInt_inj.mp
  have h1 : a / b ≤ a := Nat.div_le_self a b
  rw [Int32.toInt_div, nI_toInt ha, nI_toInt hb, nI_toInt (by omega)]
  rw [← Int.ofNat_tdiv]
  generalize a / b = q at h1 ⊢
  exact Int.bmod_eq_of_le (by omega) (by omega)
theorem nI_rem {a b : Nat} (ha : a < 2 ^ 31) (hb : b < 2 ^ 31) : jrem (nI a) (nI b) = nI (a % b) := by
  rw [jrem, nI_div ha hb, nI_mul, nI_sub (Nat.div_mul_le_self a b)]
  congr 1
  have := Nat.mod_add_div a b
  rw [Nat.mul_comm] at this
  omega
theorem nI_shl {a k : Nat} (hk : k < 32) : nI a <<< nI k = nI (a <<< k) := by
  apply Int32.toBitVec_inj.mp
  apply BitVec.eq_of_toNat_eq
  have h1 : (nI k).toBitVec.smod 32 = BitVec.ofNat 32 k := by
    rw [nI_bv]
    have : ∀ k : Fin 32, (BitVec.ofNat 32 k.val).smod 32 = BitVec.ofNat 32 k.val := by decide +kernel
    exact this ⟨k, hk⟩
  rw [Int32.toBitVec_shiftLeft, h1, nI_bv, nI_bv]
  simp [Nat.mod_eq_of_lt (show k < 4294967296 by omega), Nat.shiftLeft_eq, Nat.mod_mul_mod]
theorem nI_shr {a k : Nat} (ha : a < 2 ^ 31) (hk : k < 32) : nI a >>> nI k = nI (a >>> k) := by
  apply Int32.toInt_inj.mp
  have h1 : (nI k).toBitVec.smod 32 = BitVec.ofNat 32 k := by
    rw [nI_bv]
    have : ∀ k : Fin 32, (BitVec.ofNat 32 k.val).smod 32 = BitVec.ofNat 32 k.val := by decide +kernel
    exact this ⟨k, hk⟩
  have h3 : a >>> k ≤ a := by rw [Nat.shiftRight_eq_div_pow]; exact Nat.div_le_self _ _
  rw [nI_toInt (by omega), ← Int32.toInt_toBitVec, Int32.toBitVec_shiftRight, h1, BitVec.toInt_sshiftRight', nI_bv, BitVec.toNat_ofNat, Nat.mod_eq_of_lt (show k < 2 ^ 32 by omega)]
  have h2 : (BitVec.ofNat 32 a).toInt = (a : Int) := nI_toInt ha
  rw [h2]
  rfl
theorem and31 {k : Nat} (hk : k < 32) : k &&& 31 = k := by
  have : ∀ k : Fin 32, k.val &&& 31 = k.val := by decide +kernel
  exact this ⟨k, hk⟩
theorem cl {a : Nat} (h : a < 2 ^ 31) : Int32.toNatClampNeg (nI a) = a := nI_clamp h
