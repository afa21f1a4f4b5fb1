/-! PURE, 20: solve and leastCharge -/
theorem sub_le {S P : Nat} (h : SubP S P) : P ≤ S := by
  have hr : P &&& S = P := by
    apply Nat.eq_of_testBit_eq
    intro i
    rw [Nat.testBit_and]
    cases h5 : P.testBit i with
    | false => rfl
    | true => rw [h.1 i h5]; rfl
  rw [← hr]; exact Nat.and_le_right
def offN (R : Nat → Nat) (Z S : Nat) : Option Nat := offR R (zIn Z) S (R 0)
theorem offN_ok {R : Nat → Nat} (hR : RowOk R) {Z : Nat} : OffOk (offN R Z) := fun _ x h => (offR_le hR (fun c _ => zIn_le Z c) (R 0) (Nat.le_refl _) x h).2
def SolOk (R : Nat → Nat) (Z : Nat) (l : Int32) (w : Int64) : Prop := ∃ x : Option (Nat × Nat), BestS (offN R Z) (2 ^ R 1 - 1) x ∧ EncD x l w
def CacheOk (R : Nat → Nat) (sZ : Nat → Int32) (sR : Nat → Int64) : Prop := ∀ Z : Nat, Z < 64 → sZ Z = M1 ∨ SolOk R Z (sZ Z) (sR Z)
def OnesOk (sU : Nat → Int64) : Prop := ∀ T : Nat, T < 256 → sU T = lN (onesN T)
theorem st_in {i n : Nat} {x : Int32} {f : Nat → Int32} (h : i < n) (hn : n < 2 ^ 31) : f_X6_store (nI i) x f n = upd f i x := by
  rw [f_X6_store, if_neg (nI_pos (by omega)), if_neg (nI_ge h hn), cl (by omega)]
section SOLVE
variable {R : Nat → Nat} {bA bB bZ bG bP bQ rK rL rG pS : Nat → Int32} {bC bM : Int32} {mN : Nat → Int32} {sU : Nat → Int64}
theorem c_offersL (hR : RowOk R) (h : BookC R bA bB bZ bG bP bQ bC bM) (hp : PricesC R rK rL rG) {Z : Nat} (hZ : Z < 2 ^ 31) : ∀ (n s : Nat) (sO : Nat → Int32), 2 ^ R 1 < s + n → 1 ≤ s → s ≤ 2 ^ R 1 → (∀ T : Nat, 1 ≤ T → T < s → sO T = oI M1 (offN R Z T)) →
    (∀ T : Nat, 1 ≤ T → T < 2 ^ R 1 → (f_X4_solve_L24 (nI Z) rK rL rG bA bB bP bC bM n (nI s) sO).2 T = oI M1 (offN R Z T)) ∧ k_X4_solve_L24 (nI Z) rK rL rG bA bB bP bC bM n (nI s) sO := by
  have h3 := hR.1.2.2.1
  have h4 : 2 ^ R 1 ≤ 2 ^ 8 := Nat.pow_le_pow_right (by omega) h3
  have u3 : 1 ≤ 2 ^ R 1 := Nat.one_le_two_pow
  have hf : f_X0_fullSet bM = nI (2 ^ R 1 - 1) := by rw [h.2.1]; exact (fullN h3).1
  intro n
  induction n with
  | zero => intro s sO h1 h2 h3; omega
  | succ n ih =>
    intro s sO h1 h2 h5 hs
    rw [f_X4_solve_L24, k_X4_solve_L24, hf]
    by_cases h6 : s = 2 ^ R 1
    · have g6 : nI (2 ^ R 1 - 1) < nI s := nI_lt (by omega) (by omega)
      rw [if_pos g6, if_pos g6]
      exact ⟨fun T t1 t2 => hs T t1 (by omega), trivial⟩
    · have g6 : ¬ nI (2 ^ R 1 - 1) < nI s := nI_nlt (by omega) (by omega)
      obtain ⟨o1, o2⟩ := c_offer hR h hp (S := s) (Z := Z) (by omega) hZ
      rw [if_neg g6, if_neg g6, st_in (by omega) (by omega), o1, lit 1, nI_add]
      obtain ⟨r1, r2⟩ := ih (s + 1) (upd sO s (oI M1 (offR R (zIn Z) s (R 0)))) (by omega) (by omega) (by omega) (by
        intro T t1 t2
        by_cases t3 : T = s
        · subst t3; exact if_pos rfl
        · exact (if_neg t3).trans (hs T t1 (by omega)))
      exact ⟨r1, o2, r2⟩
theorem c_solveL {o : Nat → Option Nat} {sO : Nat → Int32} (hO : OffOk o) {m : Nat} (hm : m ≤ 8) (hsO : ∀ T : Nat, 1 ≤ T → T < 2 ^ m → sO T = oI M1 (o T)) (hU : OnesOk sU) : ∀ (n v : Nat) (sL : Nat → Int32) (sW : Nat → Int64) (D : Nat → Option (Nat × Nat)), 2 ^ m + 1 < v + 2 * n → v % 2 = 0 → 2 ≤ v → v ≤ 2 ^ m + 1 →
    (∀ T : Nat, T % 2 = 0 → T < v → EncD (D T) (sL T) (sW T) ∧ BestS o T (D T)) →
    k_X4_solve_L54 sU (nI m) n (nI v) sO sL sW ∧ (f_X4_solve_L54 sU (nI m) n (nI v) sO sL sW).2.1 = sO ∧ ∃ D' : Nat → Option (Nat × Nat), ∀ T : Nat, T % 2 = 0 → T < 2 ^ m - 1 → EncD (D' T) ((f_X4_solve_L54 sU (nI m) n (nI v) sO sL sW).2.2.1 T) ((f_X4_solve_L54 sU (nI m) n (nI v) sO sL sW).2.2.2 T) ∧ BestS o T (D' T) := by
  obtain ⟨hf, h4⟩ := fullN (m := m) hm
  have u3 : 1 ≤ 2 ^ m := Nat.one_le_two_pow
  intro n
  induction n with
  | zero =>
    intro v sL sW D h1 h2 h3 h5 hD
    omega
  | succ n ih =>
    intro v sL sW D h1 h2 h3 h5 hD
    rw [f_X4_solve_L54, k_X4_solve_L54, hf]
    by_cases h6 : 2 ^ m - 1 ≤ v
    · have g6 : nI (2 ^ m - 1) ≤ nI v := nI_le h6 (by omega)
      rw [if_pos g6, if_pos g6]
      exact ⟨trivial, rfl, D, fun T t1 t2 => hD T t1 (by omega)⟩
    · have g6 : ¬ nI (2 ^ m - 1) ≤ nI v := nI_ge (by omega) (by omega)
      obtain ⟨s1, x, s2, s3, s4⟩ := c_splitSet (o := o) (D := D) (sO := sO) (sU := sU) (S := v) (sL := sL) (sW := sW) hO (by omega) (by omega)
        (fun P hP => hsO P (by have := (sub_lt (S := v) (by omega) hP).2.1; omega) (by have := sub_le hP; omega)) hU
        (fun P hP => by have q := sub_lt (S := v) (by omega) hP; exact (hD _ q.2.2.2 q.2.2.1).1) (fun P hP => by have q := sub_lt (S := v) (by omega) hP; exact (hD _ q.2.2.2 q.2.2.1).2)
      rw [if_neg g6, if_neg g6, lit 2, nI_add]
      obtain ⟨r1, r2, r3⟩ := ih (v + 2) (f_X4_splitSet (nI v) sO sL sW sU).1 (f_X4_splitSet (nI v) sO sL sW sU).2 (fun T => if T = v then x else D T) (by omega) (by omega) (by omega) (by omega) (by
        intro T t1 t2
        by_cases t3 : T = v
        · subst t3
          simp only [if_true]
          exact ⟨s3, s2⟩
        · simp only [if_neg t3]
          rw [(s4 T t3).1, (s4 T t3).2]
          exact hD T t1 (by omega))
      exact ⟨⟨s1, r1⟩, r2, r3⟩
theorem c_solve (hR : RowOk R) (h : BookC R bA bB bZ bG bP bQ bC bM) (hp : PricesC R rK rL rG) (hU : OnesOk sU) {Z : Nat} (hZ : Z < 64) (sZ : Nat → Int32) (sR : Nat → Int64) (sO sL : Nat → Int32) (sW : Nat → Int64) :
    k_X4_solve (nI Z) rK rL rG sZ sO sL sW sU bA bB bP bC bM ∧ (∀ j : Nat, j ≠ Z → (f_X4_solve (nI Z) rK rL rG sZ sR sO sL sW sU bA bB bP bC bM).1 j = sZ j ∧ (f_X4_solve (nI Z) rK rL rG sZ sR sO sL sW sU bA bB bP bC bM).2.1 j = sR j) ∧
    SolOk R Z ((f_X4_solve (nI Z) rK rL rG sZ sR sO sL sW sU bA bB bP bC bM).1 Z) ((f_X4_solve (nI Z) rK rL rG sZ sR sO sL sW sU bA bB bP bC bM).2.1 Z) := by
  have h3 := hR.1.2.2.1
  obtain ⟨hf, h4⟩ := fullN (m := R 1) h3
  have u3 : 1 ≤ 2 ^ R 1 := Nat.one_le_two_pow
  have hO : OffOk (offN R Z) := offN_ok hR
  obtain ⟨a1, a2⟩ := c_offersL hR h hp (Z := Z) (by omega) FU 1 sO (by have := FU_big (n := 2 ^ R 1) (by omega); omega) (by omega) (by omega) (fun T t1 t2 => by omega)
  have hbM := h.2.1
  subst hbM
  rw [f_X4_solve, k_X4_solve, lit 0, lit 1, lit 2, cl (show 0 < 2 ^ 31 by omega)]
  generalize hsO : (f_X4_solve_L24 (nI Z) rK rL rG bA bB bP bC (nI (R 1)) FU (nI 1) sO).2 = sO' at a1 ⊢
  obtain ⟨b1, b2, D, b3⟩ := c_solveL (o := offN R Z) (sO := sO') (sU := sU) hO h3 a1 hU FU 2 (upd sL 0 (nI 0)) (vp_updL sW 0 0) (fun _ => some (0, 0)) (by have := FU_big (n := 2 ^ R 1) (by omega); omega) (by omega) (by omega) (by omega) (by
    intro T t1 t2
    have t3 : T = 0 := by omega
    subst t3
    exact ⟨⟨if_pos rfl, if_pos rfl, by decide, by decide⟩, dp_zero⟩)
  rw [b2]
  generalize hsL : (f_X4_solve_L54 sU (nI (R 1)) FU (nI 2) sO' (upd sL 0 (nI 0)) (vp_updL sW 0 0)).2.2.1 = sL' at b3 ⊢
  generalize hsW : (f_X4_solve_L54 sU (nI (R 1)) FU (nI 2) sO' (upd sL 0 (nI 0)) (vp_updL sW 0 0)).2.2.2 = sW' at b3 ⊢
  have key : k_X4_splitSet (nI (2 ^ R 1 - 1)) sO' sL' sW' sU ∧ ∃ x : Option (Nat × Nat), BestS (offN R Z) (2 ^ R 1 - 1) x ∧ EncD x ((f_X4_splitSet (nI (2 ^ R 1 - 1)) sO' sL' sW' sU).1 (2 ^ R 1 - 1)) ((f_X4_splitSet (nI (2 ^ R 1 - 1)) sO' sL' sW' sU).2 (2 ^ R 1 - 1)) := by
    rcases Nat.eq_zero_or_pos (R 1) with hm | hm
    · have e0 : 2 ^ R 1 - 1 = 0 := by rw [hm]
      rw [e0]
      have g0 : nI 0 < nI 1 := nI_lt (by omega) (by omega)
      have : sL' 0 = nI 0 ∧ sW' 0 = 0 := by
        obtain ⟨n, hn⟩ : ∃ n, FU = n + 1 := ⟨4095, FU_eq⟩
        have g1 : nI (2 ^ R 1 - 1) ≤ nI 2 := nI_le (by omega) (by omega)
        rw [← hsL, ← hsW, hn, f_X4_solve_L54, hf, if_pos g1]
        show upd sL 0 (nI 0) 0 = nI 0 ∧ vp_updL sW 0 0 0 = 0
        exact ⟨if_pos rfl, if_pos rfl⟩
      rw [f_X4_splitSet, k_X4_splitSet, lit 1, if_pos g0, if_pos g0]
      exact ⟨trivial, some (0, 0), dp_zero, this.1, this.2, by decide, by decide⟩
    · have hodd : 2 ≤ 2 ^ R 1 := by
        have : 2 ^ 1 ≤ 2 ^ R 1 := Nat.pow_le_pow_right (by omega) hm
        omega
      obtain ⟨s1, x, s2, s3, s4⟩ := c_splitSet (o := offN R Z) (D := D) (sO := sO') (sU := sU) (S := 2 ^ R 1 - 1) (sL := sL') (sW := sW') hO (by omega) (by omega)
        (fun P hP => a1 P (by have := (sub_lt (S := 2 ^ R 1 - 1) (by omega) hP).2.1; omega) (by have := sub_le hP; omega)) hU
        (fun P hP => by have q := sub_lt (S := 2 ^ R 1 - 1) (by omega) hP; exact (b3 _ q.2.2.2 q.2.2.1).1) (fun P hP => by have q := sub_lt (S := 2 ^ R 1 - 1) (by omega) hP; exact (b3 _ q.2.2.2 q.2.2.1).2)
      exact ⟨s1, x, s2, s3⟩
  obtain ⟨k1, x, k2, k3⟩ := key
  have g1 : ¬ nI Z < nI 0 := nI_nlt (by omega) (by omega)
  have g2 : ¬ nI 64 ≤ nI Z := nI_ge (by omega) (by omega)
  rw [f_X4_solve_L70, k_X4_solve_L70, f_X4_solve_L75, k_X4_solve_L75, f_X4_solve_L99, k_X4_solve_L99, hf, lit 0, lit 64, if_neg g1, if_neg g1, if_neg g2, if_neg g2, at_in (by omega) (by omega), row_in (by omega), cl (show Z < 2 ^ 31 by omega)]
  refine ⟨⟨a2, b1, k1, vp_in_nI hZ (by omega), trivial⟩, fun j hj => ⟨if_neg hj, if_neg hj⟩, x, k2, ?_⟩
  show EncD x (upd sZ Z ((f_X4_splitSet (nI (2 ^ R 1 - 1)) sO' sL' sW' sU).1 (2 ^ R 1 - 1)) Z) (vp_updL sR Z ((f_X4_splitSet (nI (2 ^ R 1 - 1)) sO' sL' sW' sU).2 (2 ^ R 1 - 1)) Z)
  rw [show upd sZ Z ((f_X4_splitSet (nI (2 ^ R 1 - 1)) sO' sL' sW' sU).1 (2 ^ R 1 - 1)) Z = (f_X4_splitSet (nI (2 ^ R 1 - 1)) sO' sL' sW' sU).1 (2 ^ R 1 - 1) from if_pos rfl, show vp_updL sR Z ((f_X4_splitSet (nI (2 ^ R 1 - 1)) sO' sL' sW' sU).2 (2 ^ R 1 - 1)) Z = (f_X4_splitSet (nI (2 ^ R 1 - 1)) sO' sL' sW' sU).2 (2 ^ R 1 - 1) from if_pos rfl]
  exact k3
theorem c_leastC (hR : RowOk R) (h : BookC R bA bB bZ bG bP bQ bC bM) (hp : PricesC R rK rL rG) (hU : OnesOk sU) {sZ : Nat → Int32} {sR : Nat → Int64} (hc : CacheOk R sZ sR) {pl dy : Nat} (hpl : pl ≤ 3) (hdy : dy ≤ 99) (sO sL : Nat → Int32) (sW : Nat → Int64) :
    k_X4_leastCharge (nI pl) (nI dy) rK rL rG sZ sO sL sW sU bA bB bZ bP bQ bC bM ∧ k_X4_leastRow (nI pl) (nI dy) bZ bQ bC ∧ CacheOk R (f_X4_leastCharge (nI pl) (nI dy) rK rL rG sZ sR sO sL sW sU bA bB bZ bP bQ bC bM).2.1 (f_X4_leastCharge (nI pl) (nI dy) rK rL rG sZ sR sO sL sW sU bA bB bZ bP bQ bC bM).2.2.1 ∧
    SolOk R (zAt R pl dy (R 0)) (f_X4_leastCharge (nI pl) (nI dy) rK rL rG sZ sR sO sL sW sU bA bB bZ bP bQ bC bM).1 (f_X4_leastRow (nI pl) (nI dy) (f_X4_leastCharge (nI pl) (nI dy) rK rL rG sZ sR sO sL sW sU bA bB bZ bP bQ bC bM).2.2.1 bZ bQ bC) := by
  obtain ⟨z1, z2⟩ := c_zones hR h hpl hdy
  have hZ := (zAt_ok hR (pl := pl) (dy := dy) hpl (m := R 0) (Nat.le_refl _)).1
  generalize zAt R pl dy (R 0) = Z at z1 hZ ⊢
  have g1 : ¬ nI Z < nI 0 := nI_nlt (by omega) (by omega)
  have g2 : ¬ nI 64 ≤ nI Z := nI_ge (by omega) (by omega)
  have hrow : ∀ sR' : Nat → Int64, f_X4_leastRow (nI pl) (nI dy) sR' bZ bQ bC = sR' Z := by
    intro sR'
    rw [f_X4_leastRow, z1, lit 0, lit 64, if_neg g1, if_neg g2, cl (by omega)]
  rw [hrow]
  refine ⟨?_, ⟨z2, trivial⟩, ?_⟩
  · rw [k_X4_leastCharge, z1]
    refine ⟨z2, ?_⟩
    split
    · exact ⟨(c_solve hR h hp hU hZ sZ sR sO sL sW).1, trivial⟩
    · trivial
  · rw [f_X4_leastCharge, z1, at_in (f := sZ) hZ (by omega), neg1]
    by_cases h1 : sZ Z = M1
    · rw [if_pos h1]
      obtain ⟨_, s2, s3⟩ := c_solve hR h hp hU hZ sZ sR sO sL sW
      refine ⟨fun Z' hZ' => ?_, ?_⟩
      · by_cases h2 : Z' = Z
        · subst h2; exact Or.inr s3
        · simp only []
          rw [(s2 Z' h2).1, (s2 Z' h2).2]
          exact hc Z' hZ'
      · simp only []
        rw [at_in hZ (by omega)]
        exact s3
    · rw [if_neg h1]
      exact ⟨hc, (hc Z hZ).resolve_left h1⟩
end SOLVE
