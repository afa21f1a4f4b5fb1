/-! PURE, 33: words -/
def vA (a : Nat → Nat) : Nat → Nat
  | 0 => 0
  | k + 1 => 27 * vA a k + a k
theorem wv_vA {b : Nat → Nat} {s : Nat} : ∀ k : Nat, wvN b s k = vA (fun j => b (s + j) - 96) k := by
  intro k
  induction k with
  | zero => rfl
  | succ k ih => rw [wvN, vA, ih]
def rL : List Nat → Nat
  | [] => 0
  | d :: ds => 27 * rL ds + d
theorem vA_rL {a : Nat → Nat} : ∀ (ds : List Nat), (∀ d : Nat, d ∈ ds → 1 ≤ d ∧ d ≤ 26) → ∀ m : Nat, (∀ j : Nat, j < m → 1 ≤ a j ∧ a j ≤ 26) → (vA a m = rL ds ↔ (m = ds.length ∧ ∀ i : Nat, i < m → a i = ds.getD (m - 1 - i) 0)) := by
  intro ds
  induction ds with
  | nil =>
    intro _ m hm
    cases m with
    | zero => exact ⟨fun _ => ⟨rfl, fun i hi => by omega⟩, fun _ => rfl⟩
    | succ m =>
      have := hm m (by omega)
      constructor
      · intro e; rw [vA, rL] at e; omega
      · intro e; have := e.1; rw [List.length_nil] at this; omega
  | cons d ds ih =>
    intro hd m hm
    have d1 := hd d List.mem_cons_self
    cases m with
    | zero =>
      constructor
      · intro e; rw [vA, rL] at e; omega
      · intro e; have := e.1; rw [List.length_cons] at this; omega
    | succ m =>
      have m1 := hm m (by omega)
      have hi := ih (fun d h => hd d (List.mem_cons_of_mem _ h)) m (fun j hj => hm j (by omega))
      rw [vA, rL, List.length_cons]
      constructor
      · intro e
        have e1 : vA a m = rL ds := by omega
        have e2 : a m = d := by omega
        obtain ⟨e3, e4⟩ := hi.mp e1
        refine ⟨by omega, fun i hii => ?_⟩
        rcases Nat.lt_succ_iff_lt_or_eq.mp hii with h5 | h5
        · rw [e4 i h5, show m + 1 - 1 - i = (m - 1 - i) + 1 by omega, List.getD_cons_succ]
        · subst h5; rw [show i + 1 - 1 - i = 0 by omega, List.getD_cons_zero]; exact e2
      · rintro ⟨e1, e2⟩
        have e3 : a m = d := by
          have := e2 m (by omega)
          rw [show m + 1 - 1 - m = 0 by omega, List.getD_cons_zero] at this
          exact this
        have e4 : vA a m = rL ds := hi.mpr ⟨by omega, fun i hii => by
          have := e2 i (by omega)
          rw [show m + 1 - 1 - i = (m - 1 - i) + 1 by omega, List.getD_cons_succ] at this
          exact this⟩
        omega
def wLs : List (List Nat) := [[99, 97, 114, 114, 105, 101, 114], [98, 114, 101, 97, 107], [122, 111, 110, 101, 115], [103, 111, 111, 100], [111, 114, 100, 101, 114]]
def wRs : List (List Nat) := [[18, 5, 9, 18, 18, 1, 3], [11, 1, 5, 18, 2], [19, 5, 14, 15, 26], [4, 15, 15, 7], [18, 5, 4, 18, 15]]
def isW (b : Nat → Nat) (s n k : Nat) : Prop := n = (wLs.getD k []).length ∧ ∀ i : Nat, i < n → b (s + i) = (wLs.getD k []).getD i 0
theorem w_len : ∀ k : Fin 5, (wLs.getD k.val []).length = (wRs.getD k.val []).length ∧ (wLs.getD k.val []).length ≤ 7 ∧ 1 ≤ (wLs.getD k.val []).length ∧ f_len k.val = nI (wLs.getD k.val []).length ∧ bgL.getD k.val 0 = (wLs.getD k.val []).length := by decide +kernel
theorem w_chr : ∀ k : Fin 5, ∀ i : Fin 7, i.val < (wLs.getD k.val []).length → (wLs.getD k.val []).getD i.val 0 = (wRs.getD k.val []).getD ((wLs.getD k.val []).length - 1 - i.val) 0 + 96 ∧ f_chr k.val (nI i.val) = nI ((wLs.getD k.val []).getD i.val 0) ∧ (wLs.getD k.val []).getD i.val 0 < 128 := by decide +kernel
theorem w_dig : ∀ k : Fin 5, ∀ d : Nat, d ∈ wRs.getD k.val [] → 1 ≤ d ∧ d ≤ 26 := by decide +kernel
theorem w_fst : ∀ k k' : Fin 5, (wLs.getD k.val []).getD 0 0 = (wLs.getD k'.val []).getD 0 0 → k.val = k'.val := by decide +kernel
theorem word_iff {b : Nat → Nat} {s n k : Nat} (hk : k < 5) (hn : 1 ≤ n) (hL : ∀ j : Nat, j < n → isL (b (s + j)) = true) : wvN b s (min n 8) = rL (wRs.getD k []) ↔ isW b s n k := by
  have hl := w_len ⟨k, hk⟩
  simp only [] at hl
  have hb : ∀ j : Nat, j < n → 97 ≤ b (s + j) ∧ b (s + j) ≤ 122 := by
    intro j hj
    have := hL j hj
    rw [isL, Bool.and_eq_true, decide_eq_true_eq, decide_eq_true_eq] at this
    exact this
  rw [wv_vA, vA_rL (wRs.getD k []) (w_dig ⟨k, hk⟩) (min n 8) (fun j hj => by have := hb j (by omega); show 1 ≤ b (s + j) - 96 ∧ b (s + j) - 96 ≤ 26; omega)]
  constructor
  · rintro ⟨e1, e2⟩
    have e3 : n = (wLs.getD k []).length := by omega
    refine ⟨e3, fun i hi => ?_⟩
    have hc := (w_chr ⟨k, hk⟩ ⟨i, by omega⟩ (show i < (wLs.getD k []).length by omega)).1
    simp only [] at hc
    have e4 : b (s + i) - 96 = (wRs.getD k []).getD (min n 8 - 1 - i) 0 := e2 i (by omega)
    have e5 := hb i hi
    rw [hc, show (wLs.getD k []).length - 1 - i = min n 8 - 1 - i by omega]
    omega
  · rintro ⟨e1, e2⟩
    refine ⟨by omega, fun i hi => ?_⟩
    have hc := (w_chr ⟨k, hk⟩ ⟨i, by omega⟩ (show i < (wLs.getD k []).length by omega)).1
    simp only [] at hc
    show b (s + i) - 96 = _
    rw [e2 i (by omega), hc, show (wLs.getD k []).length - 1 - i = min n 8 - 1 - i by omega]
    omega
theorem isW_uniq {b : Nat → Nat} {s n k k' : Nat} (hk : k < 5) (hk' : k' < 5) (h : isW b s n k) (h' : isW b s n k') : k = k' := by
  have l1 := (w_len ⟨k, hk⟩).2.2.1
  have e1 : n = (wLs.getD k []).length := h.1
  have e2 := h.2 0 (by have : 1 ≤ (wLs.getD k []).length := l1; omega)
  have e3 := h'.2 0 (by have : 1 ≤ (wLs.getD k []).length := l1; omega)
  exact w_fst ⟨k, hk⟩ ⟨k', hk'⟩ (e2.symm.trans e3)
/-- the word of a token: its line's number, or 5 -/
noncomputable def tWd (b : Nat → Nat) (t e : Nat) : Nat := @dite Nat (∃ k : Nat, k < 5 ∧ isW b (tS b t e) (tEn b t e - tS b t e) k) (Classical.propDecidable _) (fun h => Classical.choose h) (fun _ => 5)
theorem tWd_iff {b : Nat → Nat} {t e k : Nat} (hk : k < 5) : tWd b t e = k ↔ isW b (tS b t e) (tEn b t e - tS b t e) k := by
  rw [tWd]
  by_cases h : ∃ k : Nat, k < 5 ∧ isW b (tS b t e) (tEn b t e - tS b t e) k
  · rw [dif_pos h]
    have hs := Classical.choose_spec h
    constructor
    · intro e; rw [← e]; exact hs.2
    · intro e; exact isW_uniq hs.1 hk hs.2 e
  · rw [dif_neg h]
    constructor
    · intro e; omega
    · intro e; exact absurd ⟨k, hk, e⟩ h
theorem tWd_le {b : Nat → Nat} {t e : Nat} : tWd b t e ≤ 5 := by
  rw [tWd]
  by_cases h : ∃ k : Nat, k < 5 ∧ isW b (tS b t e) (tEn b t e - tS b t e) k
  · rw [dif_pos h]; have := (Classical.choose_spec h).1; omega
  · rw [dif_neg h]; exact Nat.le_refl _
theorem jb128 : ∀ x : Fin 256, ∀ c : Fin 128, (jbyte (nI x.val) = nI c.val ↔ x.val = c.val) := by decide +kernel
section WORD
variable {b : Nat → Nat} {t : Nat} {tB mA : Nat → Int32}
theorem c_wordL (h : TapeB b t tB mA) {s k : Nat} (hk : k < 5) (hs : s + (wLs.getD k []).length ≤ t) : ∀ (n i : Nat), (wLs.getD k []).length < i + n → i ≤ (wLs.getD k []).length →
    k_X3_isWord_L20 tB (nI t) (nI s) k n (nI i) ∧ ((∀ j : Nat, i ≤ j → j < (wLs.getD k []).length → b (s + j) = (wLs.getD k []).getD j 0) → f_X3_isWord_L20 tB (nI t) (nI s) k n (nI i) = 1) ∧ (¬ (∀ j : Nat, i ≤ j → j < (wLs.getD k []).length → b (s + j) = (wLs.getD k []).getD j 0) → f_X3_isWord_L20 tB (nI t) (nI s) k n (nI i) = 0) := by
  have ht := h.1
  have hl := w_len ⟨k, hk⟩
  simp only [] at hl
  intro n
  induction n with
  | zero => intro i h1 h2; omega
  | succ n ih =>
    intro i h1 h2
    rw [f_X3_isWord_L20, k_X3_isWord_L20, hl.2.2.2.1, hl.2.2.2.2]
    by_cases h3 : i = (wLs.getD k []).length
    · have g3 : nI (wLs.getD k []).length ≤ nI i := nI_le (by omega) (by omega)
      rw [if_pos g3, if_pos g3]
      exact ⟨trivial, fun _ => rfl, fun q => absurd (fun j j1 j2 => by omega) q⟩
    · have g3 : ¬ nI (wLs.getD k []).length ≤ nI i := nI_ge (by omega) (by omega)
      obtain ⟨b1, b2, b3⟩ := h.2 (s + i) (by omega)
      have hc := w_chr ⟨k, hk⟩ ⟨i, by omega⟩ (show i < (wLs.getD k []).length by omega)
      simp only [] at hc
      have v1 : ¬ nI i < 0 := nI_pos (by omega)
      have v2 : nI i < nI (wLs.getD k []).length := nI_lt (by omega) (by omega)
      rw [if_neg g3, if_neg g3, nI_add, c_byteAt h (by omega), hc.2.1, nI_1]
      obtain ⟨r1, r2, r3⟩ := ih (i + 1) (by omega) (by omega)
      by_cases h4 : b (s + i) = (wLs.getD k []).getD i 0
      · have g4 : jbyte (nI (b (s + i))) = nI ((wLs.getD k []).getD i 0) := (jb128 ⟨_, b1⟩ ⟨_, hc.2.2⟩).mpr h4
        rw [if_pos g4, if_pos g4]
        refine ⟨⟨v1, v2, r1⟩, fun q => r2 (fun j j1 j2 => q j (by omega) j2), fun q => r3 (fun q' => q (fun j j1 j2 => ?_))⟩
        rcases Nat.lt_or_eq_of_le j1 with h5 | h5
        · exact q' j h5 j2
        · subst h5; exact h4
      · have g4 : ¬ jbyte (nI (b (s + i))) = nI ((wLs.getD k []).getD i 0) := fun q => h4 ((jb128 ⟨_, b1⟩ ⟨_, hc.2.2⟩).mp q)
        rw [if_neg g4, if_neg g4]
        exact ⟨⟨v1, v2, trivial⟩, fun q => absurd (q i (Nat.le_refl _) (by omega)) h4, fun _ => rfl⟩
theorem c_word (h : TapeB b t tB mA) {s e k : Nat} (hk : k < 5) (hs : s ≤ e) (he : e ≤ t) : k_X3_isWord tB (nI t) (nI s) (nI e) k ∧ (isW b s (e - s) k → f_X3_isWord tB (nI t) (nI s) (nI e) k = 1) ∧ (¬ isW b s (e - s) k → f_X3_isWord tB (nI t) (nI s) (nI e) k = 0) := by
  have ht := h.1
  have hl := w_len ⟨k, hk⟩
  simp only [] at hl
  rw [f_X3_isWord, k_X3_isWord, nI_sub hs, hl.2.2.2.1]
  by_cases h1 : e - s = (wLs.getD k []).length
  · have g1 : nI (e - s) = nI (wLs.getD k []).length := by rw [h1]
    rw [if_pos g1, if_pos g1]
    obtain ⟨r1, r2, r3⟩ := c_wordL h (s := s) hk (by omega) FU 0 (by have := FU_big (n := (wLs.getD k []).length) (by omega); omega) (by omega)
    refine ⟨r1, fun q => r2 (fun j _ j2 => q.2 j (by omega)), fun q => r3 (fun q' => q ⟨h1, fun i hi => q' i (by omega) (by omega)⟩)⟩
  · have g1 : ¬ nI (e - s) = nI (wLs.getD k []).length := nI_ne (by omega) (by omega) h1
    rw [if_neg g1, if_neg g1]
    exact ⟨trivial, fun q => absurd q.1 h1, fun _ => rfl⟩
theorem c_line (h : TapeB b t tB mA) {e : Nat} (he : e ≤ t) (hk : tKd b t e = 2) : k_X3_lineOfWord tB (nI t) (nI (tSt b t e)) (nI (tEn b t e)) ∧ f_X3_lineOfWord tB (nI t) (nI (tSt b t e)) (nI (tEn b t e)) = if tWd b t e < 5 then nI (tWd b t e) else M1 := by
  obtain ⟨s1, s2, s3, _⟩ := tok_facts h he
  obtain ⟨s4, s5, s6, s7, s8⟩ := s3 (by omega)
  rw [s6, f_X3_lineOfWord, k_X3_lineOfWord]
  have W : ∀ k : Nat, k < 5 → k_X3_isWord tB (nI t) (nI (tS b t e)) (nI (tEn b t e)) k ∧ (tWd b t e = k → f_X3_isWord tB (nI t) (nI (tS b t e)) (nI (tEn b t e)) k = 1) ∧ (¬ tWd b t e = k → f_X3_isWord tB (nI t) (nI (tS b t e)) (nI (tEn b t e)) k = 0) := by
    intro k hk
    obtain ⟨r1, r2, r3⟩ := c_word h (s := tS b t e) (e := tEn b t e) hk (by omega) s8
    exact ⟨r1, fun q => r2 ((tWd_iff hk).mp q), fun q => r3 (fun q' => q ((tWd_iff hk).mpr q'))⟩
  obtain ⟨a1, a2, a3⟩ := W 0 (by omega)
  obtain ⟨b1, b2, b3⟩ := W 1 (by omega)
  obtain ⟨c1, c2, c3⟩ := W 2 (by omega)
  obtain ⟨d1, d2, d3⟩ := W 3 (by omega)
  obtain ⟨e1, e2, e3⟩ := W 4 (by omega)
  have hle := tWd_le (b := b) (t := t) (e := e)
  rcases (show tWd b t e = 0 ∨ tWd b t e = 1 ∨ tWd b t e = 2 ∨ tWd b t e = 3 ∨ tWd b t e = 4 ∨ tWd b t e = 5 by omega) with q | q | q | q | q | q
  · rw [a2 q, if_neg one0, if_neg one0, q, if_pos (by omega)]
    exact ⟨⟨a1, trivial⟩, rfl⟩
  · rw [a3 (by omega), if_pos rfl, if_pos rfl, b2 q, if_neg one0, if_neg one0, q, if_pos (by omega)]
    exact ⟨⟨a1, b1, trivial⟩, rfl⟩
  · rw [a3 (by omega), if_pos rfl, if_pos rfl, b3 (by omega), if_pos rfl, if_pos rfl, c2 q, if_neg one0, if_neg one0, q, if_pos (by omega)]
    exact ⟨⟨a1, b1, c1, trivial⟩, rfl⟩
  · rw [a3 (by omega), if_pos rfl, if_pos rfl, b3 (by omega), if_pos rfl, if_pos rfl, c3 (by omega), if_pos rfl, if_pos rfl, d2 q, if_neg one0, if_neg one0, q, if_pos (by omega)]
    exact ⟨⟨a1, b1, c1, d1, trivial⟩, rfl⟩
  · rw [a3 (by omega), if_pos rfl, if_pos rfl, b3 (by omega), if_pos rfl, if_pos rfl, c3 (by omega), if_pos rfl, if_pos rfl, d3 (by omega), if_pos rfl, if_pos rfl, e2 q, if_neg one0, q, if_pos (by omega)]
    exact ⟨⟨a1, b1, c1, d1, e1, trivial⟩, rfl⟩
  · rw [a3 (by omega), if_pos rfl, if_pos rfl, b3 (by omega), if_pos rfl, if_pos rfl, c3 (by omega), if_pos rfl, if_pos rfl, d3 (by omega), if_pos rfl, if_pos rfl, e3 (by omega), if_pos rfl, q, if_neg (by omega)]
    exact ⟨⟨a1, b1, c1, d1, e1, trivial⟩, rfl⟩
/-- the model's current token is the one behind e -/
def MTok (b : Nat → Nat) (t e : Nat) (mO mF mQ mU : Int32) (mY : Int64) : Prop := e ≤ t ∧ mF = nI (tSt b t e) ∧ mQ = nI (tKd b t e) ∧
  (tKd b t e = 2 → mO = nI (tEn b t e) ∧ mY = lN (wvN b (tS b t e) (min (tEn b t e - tS b t e) 8)) ∧ ∀ j : Nat, j < tEn b t e - tS b t e → isL (b (tS b t e + j)) = true) ∧ (tKd b t e = 3 → mO = nI (tEn b t e) ∧ mU = nI (tNm b t e)) ∧ (tKd b t e = 4 → mO = nI (tEn b t e))
theorem m_tok (h : TapeB b t tB mA) {e : Nat} (he : e ≤ t) (mU : Int32) (mY : Int64) : k_X7_go mA (nI t) (nI e) ∧ MTok b t e (f_X7_go mA (nI t) (nI e) mU mY).1 (f_X7_go mA (nI t) (nI e) mU mY).2.1 (f_X7_go mA (nI t) (nI e) mU mY).2.2.1 (f_X7_go mA (nI t) (nI e) mU mY).2.2.2.1 (f_X7_go mA (nI t) (nI e) mU mY).2.2.2.2 := by
  obtain ⟨a1, o, u, y, a2, a3, a4, a5⟩ := m_go h he mU mY
  rw [a2]
  exact ⟨a1, he, rfl, rfl, a3, a4, a5⟩
theorem tKd_le {b : Nat → Nat} {t e : Nat} : tKd b t e ≤ 4 := by
  rw [tKd]
  repeat' split
  all_goals omega
theorem m_isWord (h : TapeB b t tB mA) {e k : Nat} (hk : k < 5) {mO mF mQ mU : Int32} {mY code : Int64} (hT : MTok b t e mO mF mQ mU mY) (hc : code = lN (rL (wRs.getD k []))) (hl : rL (wRs.getD k []) < 2 ^ 60) :
    (tKd b t e = 2 ∧ tWd b t e = k → f_X7_isWord code mQ mY = 1) ∧ (¬ (tKd b t e = 2 ∧ tWd b t e = k) → f_X7_isWord code mQ mY = 0) := by
  obtain ⟨t1, t2, t3, t4, _, _⟩ := hT
  have hle := tKd_le (b := b) (t := t) (e := e)
  rw [f_X7_isWord, t3, lit 2]
  by_cases h2 : tKd b t e = 2
  · have g2 : nI (tKd b t e) = nI 2 := by rw [h2]
    obtain ⟨y1, y2, y3⟩ := t4 h2
    obtain ⟨s1, s2, s3, _⟩ := tok_facts h t1
    obtain ⟨s4, s5, s6, s7, s8⟩ := s3 (by omega)
    have hw := word_iff (b := b) (s := tS b t e) (n := tEn b t e - tS b t e) hk (by omega) y3
    have hv : wvN b (tS b t e) (min (tEn b t e - tS b t e) 8) < 2 ^ 60 := by
      have := wvN_lt (b := b) (s := tS b t e) (min (tEn b t e - tS b t e) 8) (fun j hj => y3 j (by omega))
      have h9 : (27 : Nat) ^ (min (tEn b t e - tS b t e) 8) ≤ 27 ^ 8 := Nat.pow_le_pow_right (by omega) (by omega)
      omega
    rw [if_pos g2, y2, hc]
    by_cases h3 : tWd b t e = k
    · have h4 := hw.mpr ((tWd_iff hk).mp h3)
      refine ⟨fun _ => ?_, fun q => absurd ⟨h2, h3⟩ q⟩
      rw [h4]
      exact if_pos ((lg_cmp_eq _ _).mpr rfl)
    · refine ⟨fun q => absurd q.2 h3, fun _ => ?_⟩
      refine if_neg (fun q => h3 ((tWd_iff hk).mpr (hw.mp ?_)))
      exact (pk_lEQ (by omega) (by omega)).mp ((lg_cmp_eq _ _).mp q)
  · have g2 : ¬ nI (tKd b t e) = nI 2 := nI_ne (by omega) (by omega) h2
    rw [if_neg g2]
    exact ⟨fun q => absurd q.1 h2, fun _ => rfl⟩
end WORD
