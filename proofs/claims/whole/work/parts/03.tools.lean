/-! TOOLS: Java's own operations by name, the cells of each class, small rows that the walk uses -/
/-- the loops' fuel: a number that nothing unfolds -/
noncomputable def FU : Nat := Classical.choose (⟨4096, rfl⟩ : ∃ n : Nat, n = 4096)
theorem FU_eq : FU = 4096 := Classical.choose_spec (⟨4096, rfl⟩ : ∃ n : Nat, n = 4096)
def jushr (x y : Int32) : Int32 := (x.toUInt32 >>> (y.toUInt32 &&& Int32.toUInt32 31)).toInt32
def jrem (x y : Int32) : Int32 := x - x / y * y
def jbyte (x : Int32) : Int32 := x.toInt8.toInt32
def jchar (x : Int32) : Int32 := (x.toUInt32 % 65536).toInt32
def jmin (x y : Int32) : Int32 := if y < x then y else x
def jmax (x y : Int32) : Int32 := if x < y then y else x
def sfn (L : List Int32) : Nat → Int32 := fun j => L.getD j 0
def bgS0 : List Int32 := [99, 999, 99, 0, 999, 0]
def bgS1 : List Int32 := [99, 0, 0, 0]
def bgS2 : List Int32 := [0, 0, 0, 0, 0]
def bgS3 : List Int32 := [6, 4, 5, 3, 2]
def bgS4 : List Int32 := [1, 1, 1, 0, 1, 0, 1, 0, 0, 0, 0, 0, 0, 0, 0, 0, 0, 0, 1, 1, 1, 0, 0, 0, 0, 0, 0, 0, 0, 0]
def bgS5 : List Int32 := [99, 999, 99, 99, 999, 999, 99, 999, 999, 999, 0, 0, 99, 3, 3, 3, 3, 0, 99, 999, 999, 0, 0, 0, 3, 99, 0, 0, 0, 0]
abbrev oX0 (q : Nat) (a0 : Nat) (a1 : Nat) (a2 : Nat) (a3 : Nat) (a4 : Nat) (a5 : Nat) (a6 : Int32) (a7 : Int32) (a8 : Int32) (a9 : Int32) : Nat × va_E := (q, .inr (0, [.ref a0, .ref a1, .ref a2, .ref a3, .ref a4, .ref a5, .int a6, .int a7, .int a8, .int a9]))
abbrev oX1 (q : Nat) (a0 : Nat) (a1 : Nat) (a2 : Int32) (a3 : Int32) : Nat × va_E := (q, .inr (1, [.ref a0, .ref a1, .int a2, .int a3]))
abbrev oX2 (q : Nat) (a0 : Nat) (a1 : Nat) (a2 : Nat) (a3 : Nat) : Nat × va_E := (q, .inr (2, [.ref a0, .ref a1, .ref a2, .ref a3]))
abbrev oX3 (q : Nat) (a0 : Nat) (a1 : Nat) (a2 : Nat) (a3 : Int32) (a4 : Int32) (a5 : Int32) (a6 : Int32) (a7 : Int32) : Nat × va_E := (q, .inr (3, [.ref a0, .ref a1, .ref a2, .int a3, .int a4, .int a5, .int a6, .int a7]))
abbrev oX4 (q : Nat) (a0 : Nat) (a1 : Nat) (a2 : Nat) (a3 : Nat) (a4 : Nat) (a5 : Nat) (a6 : Nat) (a7 : Nat) : Nat × va_E := (q, .inr (4, [.ref a0, .ref a1, .ref a2, .ref a3, .ref a4, .ref a5, .ref a6, .ref a7]))
abbrev oX5 (q : Nat) (a0 : Nat) (a1 : Int32) : Nat × va_E := (q, .inr (5, [.ref a0, .int a1]))
abbrev oX6 (q : Nat) (a0 : Nat) (a1 : Nat) (a2 : Nat) (a3 : Nat) (a4 : Nat) (a5 : Nat) (a6 : Nat) (a7 : Int32) : Nat × va_E := (q, .inr (6, [.ref a0, .ref a1, .ref a2, .ref a3, .ref a4, .ref a5, .ref a6, .int a7]))
abbrev oX7 (q : Nat) (a0 : Int32) (a1 : Nat) (a2 : Int32) (a3 : Int32) (a4 : Int32) (a5 : Int32) (a6 : Int32) (a7 : Int32) (a8 : Int32) (a9 : Int32) (a10 : Int64) (a11 : Nat) (a12 : Nat) (a13 : Nat) (a14 : Int32) (a15 : Int32) (a16 : Nat) (a17 : Nat) (a18 : Nat) (a19 : Nat) (a20 : Nat) (a21 : Int32) : Nat × va_E := (q, .inr (7, [.int a0, .ref a1, .int a2, .int a3, .int a4, .int a5, .int a6, .int a7, .int a8, .int a9, .long a10, .ref a11, .ref a12, .ref a13, .int a14, .int a15, .ref a16, .ref a17, .ref a18, .ref a19, .ref a20, .int a21]))
theorem in_of {i : Int32} {n : Nat} (h1 : ¬ i < 0) (h2 : ¬ nI n ≤ i) (hn : n < 2 ^ 31) : vp_in i n := by
  obtain ⟨j, hj, rfl⟩ := nI_of h1
  refine vp_in_nI ?_ hn
  rcases Nat.lt_or_ge j n with h | h
  · exact h
  · exact absurd (nI_le h hj) h2
theorem in_ge {i : Int32} (h : 0 ≤ i) : ¬ i < 0 := by
  rw [Int32.lt_iff_toInt_lt]
  rw [Int32.le_iff_toInt_le] at h
  omega
theorem in_lt {i j : Int32} (h : i < j) : ¬ j ≤ i := by
  rw [Int32.le_iff_toInt_le]
  rw [Int32.lt_iff_toInt_lt] at h
  omega
theorem ne_of_1 {x : Int32} (h : ¬ x < 1) : ¬ x = 0 := by
  intro e
  exact h (by rw [e]; decide)
theorem nb01 {x : Int32} (h : x = 0 ∨ x = 1) : narrow .boolean (.int x) = .int x := by
  rcases h with h | h <;> rw [h] <;> rfl
theorem sw_out {x : Int32} (lo hi : Int) (h : ∀ k : Int, lo ≤ k → k ≤ hi → ¬ x = Int32.ofInt k) : x.toInt < lo ∨ hi < x.toInt := by
  rcases Int.lt_or_le x.toInt lo with h1 | h1
  · exact Or.inl h1
  · rcases Int.lt_or_le hi x.toInt with h2 | h2
    · exact Or.inr h2
    · exact absurd (Int32.ofInt_toInt x).symm (h x.toInt h1 h2)
