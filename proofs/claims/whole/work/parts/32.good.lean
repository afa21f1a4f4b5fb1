/-! GOOD: ParcelSplit.good where it throws; the law's own 'good', which catches it -/
abbrev nse : String := "java/util/NoSuchElementException"
abbrev nseN : List String := ["java/lang/RuntimeException", "java/lang/Exception"]
def isCast : Cond → Bool
  | .castable _ _ => true
  | .declares _ => true
  | _ => false
def ngW : List Cond := (vx_atS RX6 122 nse nseN).filter (fun w => !goodWord w)
theorem ng_cast : ngW.all isCast = true := by decide +kernel
theorem ng_tbl : ∀ w ∈ ngW, w ∈ lw_tbl := by decide +kernel
/-- what a throw stands on beside the words -/
def BX (A : Nat → Prop) (U : State) (H : Heap) : Prop := (∀ w ∈ ngW, va_Nw w U) ∧ va_Nw (.castable nse nse) U ∧ vx_Zq Bundle.tN "UNASSIGNED_STACK" Bundle.steD A U H ∧ vx_Zq Bundle.tN "SUPPRESSED_SENTINEL" Bundle.listD A U H
theorem ng_is {w : Cond} (h : w ∈ ngW) : (∃ C T, w = .castable C T) ∨ ∃ y, w = .declares y := by
  have h1 := List.all_eq_true.mp ng_cast w h
  cases w <;> first | exact Or.inl ⟨_, _, rfl⟩ | exact Or.inr ⟨_, rfl⟩ | exact absurd h1 (by simp [isCast])
theorem BX.warm {A : Nat → Prop} {s U : State} {H : Heap} (h : BX A s H) (hW : s.WarmedH U.vm) : BX A U H := by
  obtain ⟨h1, h2, h3, h4⟩ := h
  refine ⟨fun w hw => ?_, va_Nw.warmC hW h2, vx_Zq.moved hW.alike h3, vx_Zq.moved hW.alike h4⟩
  rcases ng_is hw with ⟨C, T, rfl⟩ | ⟨y, rfl⟩
  · exact va_Nw.warmC hW (h1 _ hw)
  · exact va_Nw.warmD hW (h1 _ hw)
theorem BX.blind {A : Nat → Prop} {U : State} {H : Heap} {a : Array Value} {g : JFrame} {mk : MethodId} (h : BX A U H) : BX A (U.calling g mk a) H := by
  obtain ⟨h1, h2, h3, h4⟩ := h
  refine ⟨fun w hw => ?_, va_Nw.same (u := U) (U := U.calling g mk a) rfl rfl h2, vx_Zq.moved (u := U) (U := U.calling g mk a) (Vm.Alike.refl U.vm) h3, vx_Zq.moved (u := U) (U := U.calling g mk a) (Vm.Alike.refl U.vm) h4⟩
  rcases ng_is hw with ⟨C, T, rfl⟩ | ⟨y, rfl⟩
  · exact va_Nw.same (u := U) (U := U.calling g mk a) rfl rfl (h1 _ hw)
  · exact va_Nw.same (u := U) (U := U.calling g mk a) rfl rfl (h1 _ hw)
theorem BX.kept {A : Nat → Prop} {U : State} {H H1 : Heap} (h : BX A U H) (hq : ∀ a : Nat, a < H.size → ¬ A a → H1[a]? = H[a]?) : BX A U H1 := ⟨h.1, h.2.1, h.2.2.1.kept hq, h.2.2.2.kept hq⟩
theorem BX.narrow {A B : Nat → Prop} {U : State} {H : Heap} (h : BX A U H) (hAB : ∀ q, B q → A q) : BX B U H := ⟨h.1, h.2.1, h.2.2.1.narrow hAB, h.2.2.2.narrow hAB⟩
theorem ng_ot : ∀ w ∈ Cond.classLink RX6 118 nse :: Cond.initialized nse :: vx_atS RX6 122 nse nseN, vx_ot w = true := by decide +kernel
theorem ng_fit : Bundle.fit nse = true := by decide +kernel
theorem ng_fits : ∀ n ∈ nseN, Bundle.fit n = true := by decide +kernel
theorem ng_hat {args : Array Value} {s : State} {A : Nat → Prop} {H : Heap} (hts : ∀ w ∈ wsX6_good, w.before args s = true) (hX : BX A s H) : ∀ w ∈ vx_atS RX6 122 nse nseN, w.before args s = true := by
  refine vx_hat (B := ngW) (fun w hw => hts w (List.mem_cons_of_mem _ (List.mem_append_right _ hw))) (fun w hw => hw) (fun w hw => ?_)
  rcases ng_is hw with ⟨C, T, rfl⟩ | ⟨y, rfl⟩
  · exact va_Nw.use rfl (hX.1 _ hw)
  · exact va_Nw.use rfl (hX.1 _ hw)
def badGood (x1 x2 bM : Int32) : Prop := f_X0_hasGood x1 bM = 0 ∨ (¬ x2 = 0 ∧ ¬ x2 = 1 ∧ ¬ x2 = 2 ∧ ¬ x2 = 3)
set_option maxHeartbeats 4000000 in
set_option maxRecDepth 100000 in
theorem cx_X6_good (l : Launch) (hlt : l.stackTraces = false) (G : BGT) (q_x q_t q_b q_d q_e q_r q_s q_p q_bA q_bB q_bZ q_bG q_bP q_bQ : Nat) (xF bC bM bL bD : Int32) (x1 x2 : Int32) (hk : badGood x1 x2 bM) (H0 : Heap) :
    vx_Met l yX6_good wsX6_good (rmn 8 1 6) (va_Pc [.ref q_x, .int x1, .int x2] (fun U => U.heap = H0 ∧ va_P (gD G) vwCl [oX6 q_x q_t q_b q_d q_e q_r q_s q_p xF, oX0 q_b q_bA q_bB q_bZ q_bG q_bP q_bQ bC bM bL bD] H0 ∧ BG G (fun _ => False) U H0 ∧ BX (fun _ => False) U H0)) (fun _ _ _ _ => False) (fun E _ t => E = nse ∧ H0.size ≤ t.heap.size ∧ ∀ q : Nat, q < H0.size → t.heap[q]? = H0[q]?) 1 6 (fun _ => False) := by
  refine vx_ofW (cc := cX6_good) (maxL := 3) (ret := some .int) (by decide) rfl ?_
  intro p e s m args below meth c s₁ B hml hnt hv
  obtain ⟨rfl, hH, hP, hB, hBX⟩ := hv
  subst hH
  have hlocks := B.notSynchronized
  have hx := B.exec
  have hb := B.bytes
  have hts := atoms_spec (ws := wsX6_good) B.pre
  have hown : s.vm.findClass RX6 = some m.cls := findClass_of_methodNamed B.named
  have hS : va_S (fun _ => False) s.heap s.heap [] := va_S.rf
  have hl := lv_entry ([.ref q_x, .int x1, .int x2]) (n := 3) (Nat.le_of_ble_eq_true rfl)
  rw [lg_entry_eq]
  generalize (lg_sl ([.ref q_x, .int x1, .int x2]) ++ List.replicate (3 - (lg_sl ([.ref q_x, .int x1, .int x2])).length) Slot.unset).toArray = ls at hl ⊢
  have hl : lv_has ls 3 [(0, .ref q_x), (1, .int x1), (2, .int x2)] := hl
  have t_0 := hts (.fieldLink RX6 19 "ParcelSplit" "book" "LParcelSplit$Book;") (by decide +kernel)
  have t_1 := hts (.classLink RX6 118 nse) (by decide +kernel)
  have t_2 := hts (.initialized nse) (by decide +kernel)
  have i_X6 : ∀ w ∈ wsX60, w ∈ wsX6_good := by decide +kernel
  have hat := ng_hat hts hBX
  refine lv_aload_n hx hb dX6_good_0 rfl (lv_at hl 0 rfl) ?_
  refine va_get (D := gD G) (ci := 6) (v := .ref q_b) (C := RX6) (T := TX6) (N := 8) hx hb hts i_X6 hown hB.1 hP 0 rfl rfl 1 (by decide) t_0 (fun _ h9 => h9) rfl dX6_good_1 ?_
  refine lv_iload_n hx hb dX6_good_4 rfl (lv_at hl 1 rfl) ?_
  refine ro_V (ci := 0) (q0 := 1) (As := [.int x1]) (rest := []) (c_X0_hasGood l G q_b q_bA q_bB q_bZ q_bG q_bP q_bQ bC bM bL bD x1) [1] rfl rfl rfl rfl gX6_good_X0_hasGood ⟨_, rfl⟩ hd_X0_hasGood rfl dX6_good_5 rfl rfl (Nat.le_of_ble_eq_true rfl) ⟨Nat.le_of_ble_eq_true rfl, Nat.le_of_ble_eq_true rfl⟩ ⟨Nat.zero_le _, Nat.zero_le _⟩ hx hb hml hown hts hB hS hP hl.1 ?_
  refine W.eq (g2 := F0 m 8 ls [.int (f_X0_hasGood x1 bM)]) rfl ?_
  refine lv_if_ne (tgt := 21) hx hb dX6_good_8 (by decide) (fun c_1 => ?_) (fun c_1 => ?_)
  · rcases hk with hk | ⟨h0, h1, h2, h3⟩
    · exact absurd hk c_1
    · refine lv_iload_n hx hb dX6_good_21 rfl (lv_at hl 2 rfl) ?_
      refine lv_tableOut (tgt := 91) hx hb dX6_good_22 (sw_out 0 3 (fun k h4 h5 => by have h6 : k = 0 ∨ k = 1 ∨ k = 2 ∨ k = 3 := (by omega); rcases h6 with rfl | rfl | rfl | rfl; exact h0; exact h1; exact h2; exact h3)) (by decide) ?_
      exact vx_throwS hx hb hlt hown ng_fit ng_fits t_1 t_2 (show vk_R RX6 133 "no such what" (gK G 6) s from hB.2.2.2.1 6 (RX6, 133, "no such what") rfl) hat ng_ot hBX.2.2.1 hBX.2.2.2 hS (hl.1.trans hml.symm) dX6_good_91 dX6_good_94 dX6_good_95 dX6_good_97 dX6_good_100 (fun x hx => (hnt x hx).elim) (Nat.le_of_ble_eq_true rfl) (Nat.le_of_ble_eq_true rfl) (Nat.le_of_ble_eq_true rfl) (Nat.le_of_ble_eq_true rfl) hlocks (fun t _ h1 h2 => ⟨rfl, h1, h2⟩) (fun _ h => by cases h) (Nat.le_of_ble_eq_true rfl) (Nat.le_of_ble_eq_true rfl)
  · exact vx_throwS hx hb hlt hown ng_fit ng_fits t_1 t_2 (show vk_R RX6 120 "no such good" (gK G 5) s from hB.2.2.2.1 5 (RX6, 120, "no such good") rfl) hat ng_ot hBX.2.2.1 hBX.2.2.2 hS (hl.1.trans hml.symm) dX6_good_11 dX6_good_14 dX6_good_15 dX6_good_17 dX6_good_20 (fun x hx => (hnt x hx).elim) (Nat.le_of_ble_eq_true rfl) (Nat.le_of_ble_eq_true rfl) (Nat.le_of_ble_eq_true rfl) (Nat.le_of_ble_eq_true rfl) hlocks (fun t _ h1 h2 => ⟨rfl, h1, h2⟩) (fun _ h => by cases h) (Nat.le_of_ble_eq_true rfl) (Nat.le_of_ble_eq_true rfl)
