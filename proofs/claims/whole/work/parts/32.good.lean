/-! GOOD: ParcelSplit.good where it throws; the law's own 'good', which catches it -/
def isCast : Cond → Bool
  | .castable _ _ => true
  | .declares _ => true
  | _ => false
def ngW : List Cond := nsAt.filter (fun w => !goodWord w)
theorem ng_cast : ngW.all isCast = true := by decide +kernel
theorem ng_tbl : ∀ w ∈ ngW, w ∈ lw_tbl := by decide +kernel
/-- what a throw stands on beside the words -/
def BX (A : Nat → Prop) (U : State) (H : Heap) : Prop := (∀ w ∈ ngW, va_Nw w U) ∧ va_Nw (.castable nse nse) U ∧ vx_Zq Bundle.tN "UNASSIGNED_STACK" Bundle.steD A U H ∧ vx_Zq Bundle.tN "SUPPRESSED_SENTINEL" Bundle.listD A U H
theorem ng_is {w : Cond} (h : w ∈ ngW) : (∃ C T, w = .castable C T) ∨ ∃ y, w = .declares y := by
  have h1 := List.all_eq_true.mp ng_cast w h
  cases w <;> first | exact Or.inl ⟨_, _, rfl⟩ | exact Or.inr ⟨_, rfl⟩ | exact absurd h1 (by simp [isCast])
theorem BX.warm {A : Nat → Prop} {s U : State} {H : Heap} (h : BX A s H) (hW : s.WarmedH U.vm) : BX A U H := by
  obtain ⟨h1, h2, h3, h4⟩ := h
  refine ⟨fun w hw => ?_, va_Nw.warmC hW h2, vx_Zq.moved hW.alike h3, vx_Zq.moved hW.alike h4⟩
  rcases ng_is hw with ⟨C, T, rfl⟩ | ⟨y, rfl⟩
  · exact va_Nw.warmC hW (h1 _ hw)
  · exact va_Nw.warmD hW (h1 _ hw)
theorem BX.blind {A : Nat → Prop} {U : State} {H : Heap} {a : Array Value} {g : JFrame} {mk : MethodId} (h : BX A U H) : BX A (U.calling g mk a) H := by
  obtain ⟨h1, h2, h3, h4⟩ := h
  refine ⟨fun w hw => ?_, va_Nw.same (u := U) (U := U.calling g mk a) rfl rfl h2, vx_Zq.moved (u := U) (U := U.calling g mk a) (Vm.Alike.refl U.vm) h3, vx_Zq.moved (u := U) (U := U.calling g mk a) (Vm.Alike.refl U.vm) h4⟩
  rcases ng_is hw with ⟨C, T, rfl⟩ | ⟨y, rfl⟩
  · exact va_Nw.same (u := U) (U := U.calling g mk a) rfl rfl (h1 _ hw)
  · exact va_Nw.same (u := U) (U := U.calling g mk a) rfl rfl (h1 _ hw)
theorem BX.kept {A : Nat → Prop} {U : State} {H H1 : Heap} (h : BX A U H) (hq : ∀ a : Nat, a < H.size → ¬ A a → H1[a]? = H[a]?) : BX A U H1 := ⟨h.1, h.2.1, h.2.2.1.kept hq, h.2.2.2.kept hq⟩
theorem BX.narrow {A B : Nat → Prop} {U : State} {H : Heap} (h : BX A U H) (hAB : ∀ q, B q → A q) : BX B U H := ⟨h.1, h.2.1, h.2.2.1.narrow hAB, h.2.2.2.narrow hAB⟩
theorem ng_ot : ∀ w ∈ Cond.classLink RX6 118 nse :: Cond.initialized nse :: nsAt, vx_ot w = true := by decide +kernel
theorem ng_hat {args : Array Value} {s : State} {A : Nat → Prop} {H : Heap} (hts : ∀ w ∈ wsN_good, w.before args s = true) (hX : BX A s H) : ∀ w ∈ nsAt, w.before args s = true := by
  refine vx_hat (B := ngW) (fun w hw => hts w (List.mem_cons_of_mem _ (List.mem_append_right _ hw))) (fun w hw => hw) (fun w hw => ?_)
  rcases ng_is hw with ⟨C, T, rfl⟩ | ⟨y, rfl⟩
  · exact va_Nw.use rfl (hX.1 _ hw)
  · exact va_Nw.use rfl (hX.1 _ hw)
def badGood (x1 x2 bM : Int32) : Prop := f_X0_hasGood x1 bM = 0 ∨ (¬ x2 = 0 ∧ ¬ x2 = 1 ∧ ¬ x2 = 2 ∧ ¬ x2 = 3)
set_option maxHeartbeats 4000000 in
set_option maxRecDepth 100000 in
theorem cx_X6_good (l : Launch) (hlt : l.stackTraces = false) (G : BGT) (q_x q_t q_b q_d q_e q_r q_s q_p q_bA q_bB q_bZ q_bG q_bP q_bQ : Nat) (xF bC bM bL bD : Int32) (x1 x2 : Int32) (hk : badGood x1 x2 bM) (H0 : Heap) :
    vx_Met l yX6_good wsN_good (rmn 8 1 6) (va_Pc [.ref q_x, .int x1, .int x2] (fun U => U.heap = H0 ∧ va_P (gD G) vwCl [oX6 q_x q_t q_b q_d q_e q_r q_s q_p xF, oX0 q_b q_bA q_bB q_bZ q_bG q_bP q_bQ bC bM bL bD] H0 ∧ BG G (fun _ => False) U H0 ∧ BX (fun _ => False) U H0)) (fun _ _ _ _ => False) (fun E _ t => E = nse ∧ H0.size ≤ t.heap.size ∧ ∀ q : Nat, q < H0.size → t.heap[q]? = H0[q]?) 1 6 (fun _ => False) := by
  refine vx_ofW (cc := cX6_good) (maxL := 3) (ret := some .int) (by decide) rfl ?_
  intro p e s m args below meth c s₁ B hml hnt hv
  obtain ⟨rfl, hH, hP, hB, hBX⟩ := hv
  subst hH
  have hlocks := B.notSynchronized
  have hx := B.exec
  have hb := B.bytes
  have hts := atoms_spec (ws := wsN_good) B.pre
  have hown : s.vm.findClass RX6 = some m.cls := findClass_of_methodNamed B.named
  have hS : va_S (fun _ => False) s.heap s.heap [] := va_S.rf
  have hl := lv_entry ([.ref q_x, .int x1, .int x2]) (n := 3) (Nat.le_of_ble_eq_true rfl)
  rw [lg_entry_eq]
  generalize (lg_sl ([.ref q_x, .int x1, .int x2]) ++ List.replicate (3 - (lg_sl ([.ref q_x, .int x1, .int x2])).length) Slot.unset).toArray = ls at hl ⊢
  have hl : lv_has ls 3 [(0, .ref q_x), (1, .int x1), (2, .int x2)] := hl
  have t_0 := hts (.fieldLink RX6 19 "ParcelSplit" "book" "LParcelSplit$Book;") (by decide +kernel)
  have t_1 := hts (.classLink RX6 118 nse) (by decide +kernel)
  have t_2 := hts (.initialized nse) (by decide +kernel)
  have i_X6 : ∀ w ∈ wsX60, w ∈ wsN_good := by decide +kernel
  have hat := ng_hat hts hBX
  refine lv_aload_n hx hb dX6_good_0 rfl (lv_at hl 0 rfl) ?_
  refine va_get (D := gD G) (ci := 6) (v := .ref q_b) (C := RX6) (T := TX6) (N := 8) hx hb hts i_X6 hown hB.1 hP 0 rfl rfl 1 (by decide) t_0 (fun _ h9 => h9) rfl dX6_good_1 ?_
  refine lv_iload_n hx hb dX6_good_4 rfl (lv_at hl 1 rfl) ?_
  refine ro_V (ci := 0) (q0 := 1) (As := [.int x1]) (rest := []) (c_X0_hasGood l G q_b q_bA q_bB q_bZ q_bG q_bP q_bQ bC bM bL bD x1) [1] rfl rfl rfl rfl gN_good_X0_hasGood ⟨_, rfl⟩ hd_X0_hasGood rfl dX6_good_5 rfl rfl (Nat.le_of_ble_eq_true rfl) ⟨Nat.le_of_ble_eq_true rfl, Nat.le_of_ble_eq_true rfl⟩ ⟨Nat.zero_le _, Nat.zero_le _⟩ hx hb hml hown hts hB hS hP hl.1 ?_
  refine W.eq (g2 := F0 m 8 ls [.int (f_X0_hasGood x1 bM)]) rfl ?_
  refine lv_if_ne (tgt := 21) hx hb dX6_good_8 (by decide) (fun c_1 => ?_) (fun c_1 => ?_)
  · rcases hk with hk | ⟨h0, h1, h2, h3⟩
    · exact absurd hk c_1
    · refine lv_iload_n hx hb dX6_good_21 rfl (lv_at hl 2 rfl) ?_
      refine lv_tableOut (tgt := 91) hx hb dX6_good_22 (sw_out 0 3 (fun k h4 h5 => by have h6 : k = 0 ∨ k = 1 ∨ k = 2 ∨ k = 3 := (by omega); rcases h6 with rfl | rfl | rfl | rfl; exact h0; exact h1; exact h2; exact h3)) (by decide) ?_
      exact nx_throwS hx hb hlt hown t_1 t_2 (show vk_R RX6 133 "no such what" (gK G 6) s from hB.2.2.2.1 6 (RX6, 133, "no such what") rfl) hat ng_ot hBX.2.2.1 hBX.2.2.2 hS (hl.1.trans hml.symm) dX6_good_91 dX6_good_94 dX6_good_95 dX6_good_97 dX6_good_100 (fun x hx => (hnt x hx).elim) (Nat.le_of_ble_eq_true rfl) (Nat.le_of_ble_eq_true rfl) (Nat.le_of_ble_eq_true rfl) (Nat.le_of_ble_eq_true rfl) hlocks (fun t _ h1 h2 => ⟨rfl, h1, h2⟩) (fun _ h => by cases h) (Nat.le_of_ble_eq_true rfl) (Nat.le_of_ble_eq_true rfl)
  · exact nx_throwS hx hb hlt hown t_1 t_2 (show vk_R RX6 120 "no such good" (gK G 5) s from hB.2.2.2.1 5 (RX6, 120, "no such good") rfl) hat ng_ot hBX.2.2.1 hBX.2.2.2 hS (hl.1.trans hml.symm) dX6_good_11 dX6_good_14 dX6_good_15 dX6_good_17 dX6_good_20 (fun x hx => (hnt x hx).elim) (Nat.le_of_ble_eq_true rfl) (Nat.le_of_ble_eq_true rfl) (Nat.le_of_ble_eq_true rfl) (Nat.le_of_ble_eq_true rfl) hlocks (fun t _ h1 h2 => ⟨rfl, h1, h2⟩) (fun _ h => by cases h) (Nat.le_of_ble_eq_true rfl) (Nat.le_of_ble_eq_true rfl)
/-- the beginning of a writer's body that has an exception table -/
theorem WRW.ofW {l : Launch} {y : MethodName} {wd wd' : List Cond} {k : Nat} {G : BGT} {ws ws' : va_W} {av : List Value} {ov : Option Value} {cc : ByteArray} {maxL : Nat} {ret : Option FieldType} {C : String} {hh : List (Nat × Nat × Nat × Nat)} (hy : plainName y.cls = true) (hw : wd = Cond.codeWith y cc maxL ret hh :: wd') (hC : y.cls = C) (hlen : (lg_sl av).length ≤ maxL)
    (body : ∀ (p : Program) (e : Env) (s : State) (m : MethodId) (args : Array Value) (below : List Frame) (meth : Method) (c : Code) (Q : State → Prop) (ls : Array Slot) (A : Nat → Prop), p.tables.exec = Jvm.exec → c.code = cc → c.maxLocals = maxL → (∀ w ∈ wd, w.before args s = true) → s.vm.findClass C = some m.cls → va_P (gD G) vwCl ws s.heap → va_D A ws → va_S A s.heap s.heap [] → (∀ q : Nat, s.heap.size ≤ q → A q) → BG G A s s.heap → lv_has ls maxL (lv_args 0 av) →
      (∀ (pc : Nat) (ls : Array Slot) (x : Int32) (ty : FieldType) (H : Heap) (locs : List Loc), ret = some ty → narrow ty (.int x) = .int x → decode cc pc = .ok (.ireturn, 1) → ov = some (.int x) → va_P (gD G) vwCl ws' H → va_D A ws' → va_S A s.heap H locs → W p l e (rm k) s m args below meth c H locs 0 0 Q (F0 m pc ls [.int x])) →
      (∀ (pc : Nat) (ls : Array Slot) (H : Heap) (locs : List Loc), ret = none → decode cc pc = .ok (.return_, 1) → ov = none → va_P (gD G) vwCl ws' H → va_D A ws' → va_S A s.heap H locs → W p l e (rm k) s m args below meth c H locs 0 0 Q (F0 m pc ls [])) →
      W p l e (rm k) s m args below meth c s.heap [] 0 0 Q (F0 m 0 ls [])) : WR l y wd k G ws ws' av ov := by
  intro sz
  refine va_MetW (cc := cc) (maxL := maxL) (ret := ret) (hh := hh) hy hw ?_
  intro p e s m args below meth c s₁ B hml hv
  obtain ⟨rfl, hH, hP, hB, hD⟩ := hv
  subst hH
  have hlocks := B.notSynchronized
  have hown : s.vm.findClass y.cls = some m.cls := findClass_of_methodNamed B.named
  rw [hC] at hown
  rw [lg_entry_eq]
  refine body p e s m _ below meth c _ _ (va_A ws s.heap.size) B.exec B.bytes hml (atoms_spec (ws := wd) B.pre) hown hP (hD.self (sz := s.heap.size)) va_S.rf (fun q h => Or.inr h) hB (lv_entry av hlen) ?_ ?_
  · intro pc ls x ty H locs hr hn hd hv hP hD hS
    exact W.zret B.exec B.bytes (B.returns.trans hr) hn (fun t ht _ => ⟨by rw [hv], by rw [ht]; exact hP, hD, hS.F ht⟩) hS.2.2 hd
  · intro pc ls H locs hr hd hv hP hD hS
    exact W.vret B.exec B.bytes (B.returns.trans hr) (fun t ht _ => ⟨by rw [hv], by rw [ht]; exact hP, hD, hS.F ht⟩) hS.2.2 hd
set_option maxHeartbeats 4000000 in
set_option maxRecDepth 100000 in
/-- the law's good where ParcelSplit.good throws: 1, and nothing old is written -/
theorem cx_L_good (l : Launch) (hlt : l.stackTraces = false) (G : BGT) (q_x q_t q_b q_d q_e q_r q_s q_p q_bA q_bB q_bZ q_bG q_bP q_bQ q_lO : Nat) (xF bC bM bL bD : Int32) (x1 x2 : Int32) (hk : badGood x1 x2 bM) (H0 : Heap) :
    Met l yL_good wsM_good (rmn 10 1 6) (va_Pc [.ref q_x, .int x1, .int x2, .ref q_lO] (fun U => U.heap = H0 ∧ va_P (gD G) vwCl [oX6 q_x q_t q_b q_d q_e q_r q_s q_p xF, oX0 q_b q_bA q_bB q_bZ q_bG q_bP q_bQ bC bM bL bD] H0 ∧ BG G (fun _ => False) U H0 ∧ BX (fun _ => False) U H0)) (fun _ _ o t => o = .returned (some (.int 1)) ∧ H0.size ≤ t.heap.size ∧ ∀ q : Nat, q < H0.size → t.heap[q]? = H0[q]?) 1 6 (fun _ => False) := by
  refine va_MetW (cc := cL_good) (maxL := 5) (ret := some .int) (hh := [(0, 10, 13, 13)]) (by decide) rfl ?_
  intro p e s m args below meth c s₁ B hml hv
  obtain ⟨rfl, hH, hP, hB, hBX⟩ := hv
  subst hH
  have hlocks := B.notSynchronized
  have hx := B.exec
  have hb := B.bytes
  have hr := B.returns
  have hts := atoms_spec (ws := wsM_good) B.pre
  have hown : s.vm.findClass RL = some m.cls := findClass_of_methodNamed B.named
  have htab : c.exceptionTable.toList = tableOf [(0, 10, 13, 13)] := vx_table (x := yL_good) B (hts _ List.mem_cons_self)
  have hS : va_S (fun _ => False) s.heap s.heap [] := va_S.rf
  have hl := lv_entry ([.ref q_x, .int x1, .int x2, .ref q_lO]) (n := 5) (Nat.le_of_ble_eq_true rfl)
  rw [lg_entry_eq]
  generalize (lg_sl ([.ref q_x, .int x1, .int x2, .ref q_lO]) ++ List.replicate (5 - (lg_sl ([.ref q_x, .int x1, .int x2, .ref q_lO])).length) Slot.unset).toArray = ls at hl ⊢
  have hl : lv_has ls 5 [(0, .ref q_x), (1, .int x1), (2, .int x2), (3, .ref q_lO)] := hl
  have t_0 := hts (.classLink RL 13 nse) (by decide +kernel)
  refine lv_aload_n hx hb dL_good_0 rfl (lv_at hl 3 rfl) ?_
  refine lv_iconst (v := 0) hx hb dL_good_1 (by decide) ?_
  refine lv_aload_n hx hb dL_good_2 rfl (lv_at hl 0 rfl) ?_
  refine lv_iload_n hx hb dL_good_3 rfl (lv_at hl 1 rfl) ?_
  refine lv_iload_n hx hb dL_good_4 rfl (lv_at hl 2 rfl) ?_
  have hrun := vx_runV (g := F0 m 5 ls [.int x2, .int x1, .ref q_x, .int 0, .ref q_lO]) (As := [.int x1, .int x2]) (b := q_x) (rest := [.int 0, .ref q_lO]) (p := p) (l := l) (e := e) (R := rmn 10 1 6) (m := m) (c := c) (s := s) (below := below) (meth := meth) (H := s.heap) (locs := []) (cells := 0) (slots := 0) (own := RL) (C := RX6) (index := 7) (n := 2) (bytes := cX6_good) (maxL := 3) (ret := some .int) (cc := cL_good) (nL := 5) (Ts := wsM_good) ⟨hx, hb, hml, hown, hts⟩ (cx_X6_good l hlt G q_x q_t q_b q_d q_e q_r q_s q_p q_bA q_bB q_bZ q_bG q_bP q_bQ xF bC bM bL bD x1 x2 hk s.heap) (cwV 2 hts gM_good_N_good rfl rfl rfl ⟨rfl, hd_X6_good⟩ ⟨Nat.le_of_ble_eq_true rfl, Nat.le_of_ble_eq_true rfl⟩) ⟨fun a U g mk q => ⟨q.1, q.2.1, q.2.2.1, q.2.2.2.1.blind, q.2.2.2.2.blind⟩, va_recv hB.1 hP (ci := 6) (q0 := 0) rfl rfl, fun U hU hW => ⟨rfl, hU, hP, hB.warm hW, hBX.warm hW⟩⟩ rfl rfl hl.1 rfl (Nat.le_of_ble_eq_true rfl) dL_good_5 ⟨Nat.le_of_ble_eq_true rfl, Nat.le_of_ble_eq_true rfl⟩
  intro T hT X
  rcases hrun T hT X with ⟨v, st₀, t, T', L, h0, X', hL, e1, e2, hq, st⟩ | ⟨q, st₀, t, T', L, E, ce, h0, X', hL, e1, e2, ⟨hE, hsz, hkk⟩, hce, hcv, hcl, st⟩
  · exact hq.elim
  · have hL0 : L = [] := by
      cases L with
      | nil => rfl
      | cons a l => exact (hL a List.mem_cons_self).elim
    subst hL0
    subst hE
    rw [← e1] at hsz hkk hce
    have kx : vx_W p l e (rmn 10 1 6) s m ([.ref q_x, .int x1, .int x2, .ref q_lO] : List Value).toArray below meth c T'.heap [] (0 + 1) (0 + 6) (MQ below (fun _ _ o t => o = .returned (some (.int 1)) ∧ s.heap.size ≤ t.heap.size ∧ ∀ q : Nat, q < s.heap.size → t.heap[q]? = s.heap[q]?) ([.ref q_x, .int x1, .int x2, .ref q_lO] : List Value).toArray s 1 6 (fun _ => False)) (F0 m 5 ls [.int 0, .ref q_lO]) q := by
      refine vx_catch (name := nse) hown [] { startPc := 0, endPc := 10, handlerPc := 13, catchType := 13 } [] htab (fun z hz => by cases hz) rfl (by decide) t_0 (va_Nw.use rfl hBX.2.1) hce hcv hcl ?_
      refine lv_astore (lv' := [(4, .ref q), (0, .ref q_x), (1, .int x1), (2, .int x2), (3, .ref q_lO)]) hx hb dL_good_13 hl (by decide) rfl (fun ls hl => ?_)
      refine lv_iconst (v := 1) hx hb dL_good_15 (by decide) ?_
      exact W.iret (v := 1) hx hb hr (fun t ht _ => ⟨rfl, by rw [ht]; exact hsz, by rw [ht]; exact hkk⟩) (fun _ h => by cases h) dL_good_16
    obtain ⟨t2, a1, b1⟩ := kx T' rfl X'
    exact ⟨t2, st.trans a1, b1⟩
