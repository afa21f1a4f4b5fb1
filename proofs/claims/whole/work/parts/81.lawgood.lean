theorem kgood_ok {a1 a2 bM : Int32} (h : ¬ badGood a1 a2 bM) : k_L_good a1 a2 bM := by
  rw [k_L_good, k_X6_good]
  refine ⟨?_, trivial⟩
  by_cases h0 : f_X0_hasGood a1 bM = 0
  · exact absurd (Or.inl h0) h
  · rw [if_neg h0]
    by_cases c0 : a2 = 0
    · rw [if_pos c0]; trivial
    · rw [if_neg c0]
      by_cases c1 : a2 = 1
      · rw [if_pos c1]; trivial
      · rw [if_neg c1]
        by_cases c2 : a2 = 2
        · rw [if_pos c2]; trivial
        · rw [if_neg c2]
          by_cases c3 : a2 = 3
          · rw [if_pos c3]; trivial
          · exact absurd (Or.inr ⟨c0, c1, c2, c3⟩) h
theorem wr_SW {p : Program} {l : Launch} {e : Env} {R : Room} {s : State} {m : MethodId} {args : Array Value} {below : List Frame} {meth : Method} {c : Code} {H : Heap} {locs : List Loc} {cells slots : Nat} {Q : State → Prop}
    {pc nL maxL idx n ky : Nat} {ls : Array Slot} {As rest st0 : List Value} {A : Nat → Prop} {G : BGT} {ws wc wc' wr wf : va_W} {y : MethodName} {wy Ts : List Cond} {cc bytes : ByteArray} {ret : Option FieldType} {own : String} {ov : Option Value} {hh : List (Nat × Nat × Nat × Nat)}
    (hM : WR l y wy ky G wc wc' As ov) (isC isR isF : List Nat) (hC : isC.map (fun i => ws[i]?) = wc.map some) (hR : isR.map (fun i => ws[i]?) = wr.map some) (hF : isF.map (fun i => (wr ++ wc')[i]?) = wf.map some) (hnd : va_nd isC = true ∧ va_nd isR = true ∧ va_nd isF = true ∧ ∀ i ∈ isR, i ∉ isC) (hg : GoodIn Ts (va_wsS own idx y wy)) (hw : ∃ w', wy = Cond.codeWith y bytes maxL ret hh :: w') (hd : y.cls ≠ "java/lang/invoke/MethodHandle" ∧ y.cls ≠ "java/lang/invoke/VarHandle" ∧ (parseMethodDescriptor y.desc).map (fun d => d.parameters.length) = some n) (hdg : decode cc pc = .ok (.invokestatic idx, 3))
    (hn : As.length = n) (hst : st0 = As.reverse ++ rest) (hW : (rest.map fun v => v.category).sum ≤ 8) (hRm : ky + 1 ≤ R.frames ∧ 8 + (maxL + 11) + 40 * ky ≤ R.locals) (hf : cells ≤ R.cells ∧ slots ≤ R.slots)
    (hx : p.tables.exec = Jvm.exec) (hb : c.code = cc) (hml : c.maxLocals = nL) (hown : s.vm.findClass own = some m.cls) (hts : ∀ w ∈ Ts, w.before args s = true) (hB : BG G A s s.heap) (hD : va_D A ws) (hS : va_S A s.heap H locs) (hA : ∀ q : Nat, s.heap.size ≤ q → A q) (hP : va_P (gD G) vwCl ws H) (hls : ls.size = nL)
    (kk : ∀ (H : Heap) (locs : List Loc), va_P (gD G) vwCl wf H → va_D A wf → va_S A s.heap H locs → W p l e R s m args below meth c H locs cells slots Q (F0 m (pc + 3) ls (ov.toList ++ rest))) : W p l e R s m args below meth c H locs cells slots Q (F0 m pc ls st0) := by
  obtain ⟨w', hw⟩ := hw
  exact wr_run isC isR isF (vx_runSW (g := F0 m pc ls st0) ⟨hx, hb, hml, hown, hts⟩ (hM H.size) (vx_cwSW n hts hg hw rfl rfl hd hRm) ⟨wr_blind, wr_pre (B := A) isC hC hnd.1 hB hD hS hA hP⟩ rfl hn hls hst (lv_room hW) hdg hf) rfl hC hR hnd.2.1 hnd.2.2.2 hnd.2.2.1 hF hD hS hA hP kk
/-- the law's good is called where it is to throw and to catch -/
theorem law_bad {p : Program} {l : Launch} {e : Env} {s : State} {m : MethodId} {args : Array Value} {below : List Frame} {meth : Method} {c : Code} {H : Heap} {locs : List Loc} {cells slots : Nat} {Q : State → Prop} {pc q0 q1 : Nat} {ls : Array Slot} {rest : List Value} {A : Nat → Prop} {ws : va_W} {q_x q_t q_b q_d q_e q_r q_s q_p q_bA q_bB q_bZ q_bG q_bP q_bQ q_lO : Nat} {xF bC bM bL bD x1 x2 : Int32}
    (G : BGT) (hlt : l.stackTraces = false) (hx : p.tables.exec = Jvm.exec) (hb : c.code = code) (hml : c.maxLocals = 7) (hown : s.vm.findClass R_law = some m.cls) (hts : ∀ w ∈ lw_tbl, w.before args s = true) (hB : BG G A s s.heap) (hBX : BX A s s.heap) (hS : va_S A s.heap H locs) (hP : va_P (gD G) vwCl ws H) (hD : va_D A ws) (hls : ls.size = 7)
    (h0 : ws[q0]? = some (oX6 q_x q_t q_b q_d q_e q_r q_s q_p xF)) (h1 : ws[q1]? = some (oX0 q_b q_bA q_bB q_bZ q_bG q_bP q_bQ bC bM bL bD)) (hbad : badGood x1 x2 bM) (hdg : decode code pc = .ok (.invokestatic 43, 3)) (hWr : (rest.map fun v => v.category).sum ≤ 8) (hf : cells + 1 ≤ room_1.cells ∧ slots + 6 ≤ room_1.slots)
    (kk : ∀ H1 : Heap, va_P (gD G) vwCl ws H1 → va_S A s.heap H1 locs → W p l e room_1 s m args below meth c H1 locs (cells + 1) (slots + 6) Q (F0 m (pc + 3) ls (.int 1 :: rest))) :
    W p l e room_1 s m args below meth c H locs cells slots Q (F0 m pc ls (.ref q_lO :: .int x2 :: .int x1 :: .ref q_x :: rest)) := by
  have hPc : va_P (gD G) vwCl [oX6 q_x q_t q_b q_d q_e q_r q_s q_p xF, oX0 q_b q_bA q_bB q_bZ q_bG q_bP q_bQ bC bM bL bD] H := by
    refine hP.sub [q0, q1] ?_
    simp only [List.filterMap_cons, List.filterMap_nil, h0, h1]
  have hrun := vx_runSW (g := F0 m pc ls (.ref q_lO :: .int x2 :: .int x1 :: .ref q_x :: rest)) (As := [.ref q_x, .int x1, .int x2, .ref q_lO]) (rest := rest) (p := p) (l := l) (e := e) (R := room_1) (m := m) (c := c) (s := s) (args := args) (below := below) (meth := meth) (H := H) (locs := locs) (cells := cells) (slots := slots) (own := RL) (index := 43) (n := 4) (bytes := cL_good) (maxL := 5) (ret := some .int) (hh := [(0, 10, 13, 13)]) (cc := code) (nL := 7) (Ts := lw_tbl) ⟨hx, hb, hml, hown, hts⟩ (cx_L_good l hlt G q_x q_t q_b q_d q_e q_r q_s q_p q_bA q_bB q_bZ q_bG q_bP q_bQ q_lO xF bC bM bL bD x1 x2 hbad H) (vx_cwSW 4 hts gT_L_good rfl rfl rfl hd_L_good ⟨Nat.le_of_ble_eq_true rfl, Nat.le_of_ble_eq_true rfl⟩) ⟨fun a U g mk q => ⟨q.1, q.2.1, q.2.2.1, q.2.2.2.1.blind, q.2.2.2.2.blind⟩, fun U hU hW => ⟨rfl, hU, hPc, ((hB.kept hS.2.1).narrow (fun _ h => h.elim)).warm hW, ((hBX.kept hS.2.1).narrow (fun _ h => h.elim)).warm hW⟩⟩ rfl rfl hls rfl (lv_room hWr) hdg hf
  intro T hT X
  obtain ⟨v, st₀, t, T', L, h0', X', hL, e1, e2, ⟨hv, hsz, hkk⟩, st⟩ := hrun T hT X
  have hL0 : L = [] := by
    cases L with
    | nil => rfl
    | cons a l => exact (hL a List.mem_cons_self).elim
  subst hL0
  rw [List.append_nil] at X'
  cases hv
  rw [← e1] at hsz hkk
  have hP1 : va_P (gD G) vwCl ws T'.heap := hP.kept (fun k q hk => hkk q.1 (vx_lt hP hk))
  have hS1 : va_S A s.heap T'.heap locs := ⟨Nat.le_trans hS.1 hsz, fun q h1 h2 => (hkk q (Nat.lt_of_lt_of_le h1 hS.1)).trans (hS.2.1 q h1 h2), hS.2.2⟩
  obtain ⟨tg, a1, b1⟩ := kk T'.heap hP1 hS1 T' rfl X'
  exact ⟨tg, st tg a1, b1⟩
section LAWG
variable {p : Program} {l : Launch} {e : Env} {s : State} {m : MethodId} {below : List Frame} {meth : Method} {c : Code} {b L i : Nat} {xs : Nat → Int32} {x4 : Int32}
theorem eqg_v {tB : Nat → Int32} {tN : Int32} {bA : Nat → Int32} {bB : Nat → Int32} {bZ : Nat → Int32} {bG : Nat → Int32} {bP : Nat → Int32} {bQ : Nat → Int32} {bC : Int32} {bM : Int32} {rK : Nat → Int32} {rL : Nat → Int32} {rG : Nat → Int32} {sZ : Nat → Int32} {sR : Nat → Int64} {sU : Nat → Int64} {pS : Nat → Int32} {pE : Nat → Int32} {pN : Int32} {pK : Int32} {xF : Int32} {mA : Nat → Int32} {mK : Int32} {mG : Int32} {mN : Nat → Int32} {mS : Nat → Int32} {mV : Int32} {lO : Nat → Int64} (hR : Rel tB tN bA bB bZ bG bP bQ bC bM rK rL rG sZ sR sU pS pE pN pK xF mA mK mG mN mS mV) {a1 a2 : Int32} (h : ¬ badGood a1 a2 bM) : (lg_cmp (((f_L_good a1 a2 pS lO bG bM).2) (Int32.toNatClampNeg 0)) (Int32.toInt64 ((f_X7_good a1 a2 mN).1))) = 0 := by
  have h1 : (f_L_good a1 a2 pS lO bG bM).2 (Int32.toNatClampNeg 0) = Int32.toInt64 (f_X6_good a1 a2 pS bG bM) := by
    rw [f_L_good]; rfl
  rw [h1, eqg_e hR h]
  simp [lg_cmp]
theorem hd5_L_good : True := trivial
set_option maxHeartbeats 4000000 in
set_option maxRecDepth 100000 in
theorem law_case_5 (G : BGT) (hlt : l.stackTraces = false) (C0 : lw_At p s m meth c b L xs) (hB : BG G (fun q : Nat => s.heap.size ≤ q) s s.heap) (hBX : BX (fun q : Nat => s.heap.size ≤ q) s s.heap) (hi : i ≤ 3072) (h_1 : vp_in (x4 + 1) L) (h_2 : vp_in (x4 + 2) L) (h_3 : vp_in (x4 + 3) L) (h_4 : vp_in (x4 + 4) L) (h_5 : vp_in (x4 + 5) L) (q_x q_t q_tB q_b q_bA q_bB q_bZ q_bG q_bP q_bQ q_d q_dA q_dB q_dZ q_dG q_dP q_dQ q_e q_eN q_r q_rK q_rL q_rG q_s q_sZ q_sR q_sO q_sL q_sW q_sU q_p q_pS q_pE q_m q_mA q_mN q_mR q_mS q_mC q_mH q_mW q_mB q_mX q_lO : Nat) (xF : Int32) (tN : Int32) (tB : Nat → Int32) (bC : Int32) (bM : Int32) (bL : Int32) (bD : Int32) (bA : Nat → Int32) (bB : Nat → Int32) (bZ : Nat → Int32) (bG : Nat → Int32) (bP : Nat → Int32) (bQ : Nat → Int32) (dC : Int32) (dM : Int32) (dL : Int32) (dD : Int32) (dA : Nat → Int32) (dB : Nat → Int32) (dZ : Nat → Int32) (dG : Nat → Int32) (dP : Nat → Int32) (dQ : Nat → Int32) (eF : Int32) (eK : Int32) (eS : Int32) (eE : Int32) (eU : Int32) (eN : Nat → Int32) (rK : Nat → Int32) (rL : Nat → Int32) (rG : Nat → Int32) (sZ : Nat → Int32) (sR : Nat → Int64) (sO : Nat → Int32) (sL : Nat → Int32) (sW : Nat → Int64) (sU : Nat → Int64) (pN : Int32) (pK : Int32) (pS : Nat → Int32) (pE : Nat → Int32) (mT : Int32) (mK : Int32) (mZ : Int32) (mO : Int32) (mF : Int32) (mQ : Int32) (mU : Int32) (mG : Int32) (mP : Int32) (mY : Int64) (mV : Int32) (mL : Int32) (mE : Int32) (mA : Nat → Int32) (mN : Nat → Int32) (mR : Nat → Int32) (mS : Nat → Int32) (mC : Nat → Int32) (mH : Nat → Int32) (mW : Nat → Int32) (mB : Nat → Int32) (mX : Nat → Int32) (lO : Nat → Int64) (hn : ∀ (xF : Int32) (tN : Int32) (tB : Nat → Int32) (bC : Int32) (bM : Int32) (bL : Int32) (bD : Int32) (bA : Nat → Int32) (bB : Nat → Int32) (bZ : Nat → Int32) (bG : Nat → Int32) (bP : Nat → Int32) (bQ : Nat → Int32) (dC : Int32) (dM : Int32) (dL : Int32) (dD : Int32) (dA : Nat → Int32) (dB : Nat → Int32) (dZ : Nat → Int32) (dG : Nat → Int32) (dP : Nat → Int32) (dQ : Nat → Int32) (eF : Int32) (eK : Int32) (eS : Int32) (eE : Int32) (eU : Int32) (eN : Nat → Int32) (rK : Nat → Int32) (rL : Nat → Int32) (rG : Nat → Int32) (sZ : Nat → Int32) (sR : Nat → Int64) (sO : Nat → Int32) (sL : Nat → Int32) (sW : Nat → Int64) (sU : Nat → Int64) (pN : Int32) (pK : Int32) (pS : Nat → Int32) (pE : Nat → Int32) (mT : Int32) (mK : Int32) (mZ : Int32) (mO : Int32) (mF : Int32) (mQ : Int32) (mU : Int32) (mG : Int32) (mP : Int32) (mY : Int64) (mV : Int32) (mL : Int32) (mE : Int32) (mA : Nat → Int32) (mN : Nat → Int32) (mR : Nat → Int32) (mS : Nat → Int32) (mC : Nat → Int32) (mH : Nat → Int32) (mW : Nat → Int32) (mB : Nat → Int32) (mX : Nat → Int32) (lO : Nat → Int64), Rel tB tN bA bB bZ bG bP bQ bC bM rK rL rG sZ sR sU pS pE pN pK xF mA mK mG mN mS mV → ∀ (H : Heap) (locs : List Loc), va_P (gD G) vwCl (lawW G q_x q_t q_tB q_b q_bA q_bB q_bZ q_bG q_bP q_bQ q_d q_dA q_dB q_dZ q_dG q_dP q_dQ q_e q_eN q_r q_rK q_rL q_rG q_s q_sZ q_sR q_sO q_sL q_sW q_sU q_p q_pS q_pE q_m q_mA q_mN q_mR q_mS q_mC q_mH q_mW q_mB q_mX q_lO xF tN tB bC bM bL bD bA bB bZ bG bP bQ dC dM dL dD dA dB dZ dG dP dQ eF eK eS eE eU eN rK rL rG sZ sR sO sL sW sU pN pK pS pE mT mK mZ mO mF mQ mU mG mP mY mV mL mE mA mN mR mS mC mH mW mB mX lO) H → va_D (fun q : Nat => s.heap.size ≤ q) (lawW G q_x q_t q_tB q_b q_bA q_bB q_bZ q_bG q_bP q_bQ q_d q_dA q_dB q_dZ q_dG q_dP q_dQ q_e q_eN q_r q_rK q_rL q_rG q_s q_sZ q_sR q_sO q_sL q_sW q_sU q_p q_pS q_pE q_m q_mA q_mN q_mR q_mS q_mC q_mH q_mW q_mB q_mX q_lO xF tN tB bC bM bL bD bA bB bZ bG bP bQ dC dM dL dD dA dB dZ dG dP dQ eF eK eS eE eU eN rK rL rG sZ sR sO sL sW sU pN pK pS pE mT mK mZ mO mF mQ mU mG mP mY mV mL mE mA mN mR mS mC mH mW mB mX lO) → va_S (fun q : Nat => s.heap.size ≤ q) s.heap H locs → ∀ (ls : Array Slot), lv_has ls 7 [(0, .ref b), (1, .ref q_x), (2, .ref q_m), (3, .ref q_lO), (4, .int x4)] → W p l e room_1 s m #[Value.ref b] below meth c H locs (50 + i + 1) (7000 + 6 * i + 6) (lw_Z below #[Value.ref b] s) (F0 m 879 ls [])) (hR : Rel tB tN bA bB bZ bG bP bQ bC bM rK rL rG sZ sR sU pS pE pN pK xF mA mK mG mN mS mV) : ∀ (H : Heap) (locs : List Loc), va_P (gD G) vwCl (lawW G q_x q_t q_tB q_b q_bA q_bB q_bZ q_bG q_bP q_bQ q_d q_dA q_dB q_dZ q_dG q_dP q_dQ q_e q_eN q_r q_rK q_rL q_rG q_s q_sZ q_sR q_sO q_sL q_sW q_sU q_p q_pS q_pE q_m q_mA q_mN q_mR q_mS q_mC q_mH q_mW q_mB q_mX q_lO xF tN tB bC bM bL bD bA bB bZ bG bP bQ dC dM dL dD dA dB dZ dG dP dQ eF eK eS eE eU eN rK rL rG sZ sR sO sL sW sU pN pK pS pE mT mK mZ mO mF mQ mU mG mP mY mV mL mE mA mN mR mS mC mH mW mB mX lO) H → va_D (fun q : Nat => s.heap.size ≤ q) (lawW G q_x q_t q_tB q_b q_bA q_bB q_bZ q_bG q_bP q_bQ q_d q_dA q_dB q_dZ q_dG q_dP q_dQ q_e q_eN q_r q_rK q_rL q_rG q_s q_sZ q_sR q_sO q_sL q_sW q_sU q_p q_pS q_pE q_m q_mA q_mN q_mR q_mS q_mC q_mH q_mW q_mB q_mX q_lO xF tN tB bC bM bL bD bA bB bZ bG bP bQ dC dM dL dD dA dB dZ dG dP dQ eF eK eS eE eU eN rK rL rG sZ sR sO sL sW sU pN pK pS pE mT mK mZ mO mF mQ mU mG mP mY mV mL mE mA mN mR mS mC mH mW mB mX lO) → va_S (fun q : Nat => s.heap.size ≤ q) s.heap H locs → ∀ (ls : Array Slot), lv_has ls 7 [(0, .ref b), (1, .ref q_x), (2, .ref q_m), (3, .ref q_lO), (4, .int x4)] → W p l e room_1 s m #[Value.ref b] below meth c H locs (50 + i) (7000 + 6 * i) (lw_Z below #[Value.ref b] s) (F0 m 301 ls []) := by
  intro H locs hP hD hS ls hl
  obtain ⟨hx, hb, hr, hml, hown, hts, hX, hbl, hlocks, hgv⟩ := C0
  have hA : ∀ q : Nat, s.heap.size ≤ q → (fun q : Nat => s.heap.size ≤ q) q := fun _ h => h
  have hbA : ¬ (fun q : Nat => s.heap.size ≤ q) b := Nat.not_le.mpr hbl
  have hc9 : 50 + i ≤ room_1.cells := by show 50 + i ≤ 601024; omega
  have hs9 : 7000 + 6 * i ≤ room_1.slots := by show 7000 + 6 * i ≤ 7293033; omega
  have hc8 : 50 + i + 1 ≤ room_1.cells := by show 50 + i + 1 ≤ 601024; omega
  have hs8 : 7000 + 6 * i + 6 ≤ room_1.slots := by show 7000 + 6 * i + 6 ≤ 7293033; omega
  by_cases hbad : badGood (xs (Int32.toNatClampNeg (x4 + 1))) (xs (Int32.toNatClampNeg (x4 + 2))) bM
  · refine lv_aload_n hx hb dL_law_301 rfl (lv_at hl 1 rfl) ?_
    refine lv_aload_n hx hb dL_law_302 rfl (lv_at hl 0 rfl) ?_
    refine lv_iload hx hb dL_law_303 (lv_at hl 4 rfl) ?_
    refine lv_iconst (v := 1) hx hb dL_law_305 (by decide) ?_
    refine lv_iadd hx hb dL_law_306 ?_
    refine va_sld hx hb hX hbl hbA hS h_1 dL_law_307 ?_
    refine lv_aload_n hx hb dL_law_308 rfl (lv_at hl 0 rfl) ?_
    refine lv_iload hx hb dL_law_309 (lv_at hl 4 rfl) ?_
    refine lv_iconst (v := 2) hx hb dL_law_311 (by decide) ?_
    refine lv_iadd hx hb dL_law_312 ?_
    refine va_sld hx hb hX hbl hbA hS h_2 dL_law_313 ?_
    refine lv_aload_n hx hb dL_law_314 rfl (lv_at hl 3 rfl) ?_
    refine law_bad (q0 := 0) (q1 := 3) (rest := []) G hlt hx hb hml hown hts hB hBX hS hP hD hl.1 rfl rfl hbad dL_law_315 (Nat.le_of_ble_eq_true rfl) ⟨hc8, hs8⟩ (fun H hP hS => ?_)
    refine lv_istore (lv' := [(5, .int 1), (0, .ref b), (1, .ref q_x), (2, .ref q_m), (3, .ref q_lO), (4, .int x4)]) hx hb dL_law_318 hl (by decide) rfl (fun ls hl => ?_)
    refine lv_aload_n hx hb dL_law_320 rfl (lv_at hl 3 rfl) ?_
    refine lv_aload_n hx hb dL_law_321 rfl (lv_at hl 1 rfl) ?_
    refine lv_iload hx hb dL_law_322 (lv_at hl 5 rfl) ?_
    refine lv_iconst (v := 1) hx hb dL_law_324 (by decide) ?_
    refine lv_iadd hx hb dL_law_325 ?_
    refine va_sld hx hb hX hbl hbA hS h_1 dL_law_326 ?_
    refine lv_aload_n hx hb dL_law_327 rfl (lv_at hl 1 rfl) ?_
    refine lv_iload hx hb dL_law_328 (lv_at hl 5 rfl) ?_
    refine lv_iconst (v := 2) hx hb dL_law_330 (by decide) ?_
    refine lv_iadd hx hb dL_law_331 ?_
    refine va_sld hx hb hX hbl hbA hS h_2 dL_law_332 ?_
    refine wr_V (ci := 7) (q0 := 33) (As := [.int (xs (Int32.toNatClampNeg (x4 + 1))), .int (xs (Int32.toNatClampNeg (x4 + 2)))]) (rest := []) (wr := [oX6 q_x q_t q_b q_d q_e q_r q_s q_p xF, oX5 q_t q_tB tN, aB G q_tB 740 tB, oX0 q_b q_bA q_bB q_bZ q_bG q_bP q_bQ bC bM bL bD, aI G q_bA 18 bA, aI G q_bB 60 bB, aI G q_bZ 45 bZ, aI G q_bG 24 bG, aI G q_bP 3 bP, aI G q_bQ 3 bQ, oX0 q_d q_dA q_dB q_dZ q_dG q_dP q_dQ dC dM dL dD, aI G q_dA 18 dA, aI G q_dB 60 dB, aI G q_dZ 45 dZ, aI G q_dG 24 dG, aI G q_dP 3 dP, aI G q_dQ 3 dQ, oX3 q_e q_t q_d q_eN eF eK eS eE eU, aI G q_eN 6 eN, oX2 q_r q_b q_rK q_rL q_rG, aI G q_rK 256 rK, aI G q_rL 256 rL, aI G q_rG 3 rG, oX4 q_s q_b q_r q_sZ q_sR q_sO q_sL q_sW q_sU, aI G q_sZ 64 sZ, aJ G q_sR 64 sR, aI G q_sO 256 sO, aI G q_sL 256 sL, aJ G q_sW 256 sW, aJ G q_sU 256 sU, oX1 q_p q_pS q_pE pN pK, aI G q_pS 26 pS, aI G q_pE 260 pE, aI G q_mA 740 mA, aI G q_mR 181 mR, aI G q_mS 1810 mS, aI G q_mC 256 mC, aI G q_mH 256 mH, aI G q_mW 8 mW, aI G q_mB 8 mB, aI G q_mX 8 mX, aJ G q_lO 1 lO]) (wf := lawW G q_x q_t q_tB q_b q_bA q_bB q_bZ q_bG q_bP q_bQ q_d q_dA q_dB q_dZ q_dG q_dP q_dQ q_e q_eN q_r q_rK q_rL q_rG q_s q_sZ q_sR q_sO q_sL q_sW q_sU q_p q_pS q_pE q_m q_mA q_mN q_mR q_mS q_mC q_mH q_mW q_mB q_mX q_lO xF tN tB bC bM bL bD bA bB bZ bG bP bQ dC dM dL dD dA dB dZ dG dP dQ eF eK eS eE eU eN rK rL rG sZ sR sO sL sW sU pN pK pS pE ((f_X7_good (xs (Int32.toNatClampNeg (x4 + 1))) (xs (Int32.toNatClampNeg (x4 + 2))) mN).2) mK mZ mO mF mQ mU mG mP mY mV mL mE mA mN mR mS mC mH mW mB mX lO) (c_X7_good l G q_m q_mA q_mN q_mR q_mS q_mC q_mH q_mW q_mB q_mX mT mK mZ mO mF mQ mU mG mP mY mV mL mE mN (xs (Int32.toNatClampNeg (x4 + 1))) (xs (Int32.toNatClampNeg (x4 + 2))) (pk_X7_good hR (xs (Int32.toNatClampNeg (x4 + 1))) (xs (Int32.toNatClampNeg (x4 + 2))))) [33, 35] [0, 1, 2, 3, 4, 5, 6, 7, 8, 9, 10, 11, 12, 13, 14, 15, 16, 17, 18, 19, 20, 21, 22, 23, 24, 25, 26, 27, 28, 29, 30, 31, 32, 34, 36, 37, 38, 39, 40, 41, 42, 43] [0, 1, 2, 3, 4, 5, 6, 7, 8, 9, 10, 11, 12, 13, 14, 15, 16, 17, 18, 19, 20, 21, 22, 23, 24, 25, 26, 27, 28, 29, 30, 31, 32, 42, 33, 43, 34, 35, 36, 37, 38, 39, 40, 41] rfl rfl rfl (by decide) rfl rfl rfl gT_X7_good ⟨_, rfl⟩ hd_X7_good rfl dL_law_333 rfl rfl (Nat.le_of_ble_eq_true rfl) ⟨Nat.le_of_ble_eq_true rfl, Nat.le_of_ble_eq_true rfl⟩ ⟨hc8, hs8⟩ hx hb hml hown hts hB hD hS hA hP hl.1 (fun H locs hP hD hS => ?_)
    refine W.eq (g2 := F0 m 336 ls [.int ((f_X7_good (xs (Int32.toNatClampNeg (x4 + 1))) (xs (Int32.toNatClampNeg (x4 + 2))) mN).1)]) rfl ?_
    refine lv_istore (lv' := [(6, .int ((f_X7_good (xs (Int32.toNatClampNeg (x4 + 1))) (xs (Int32.toNatClampNeg (x4 + 2))) mN).1)), (5, .int 1), (0, .ref b), (1, .ref q_x), (2, .ref q_m), (3, .ref q_lO), (4, .int x4)]) hx hb dL_law_336 hl (by decide) rfl (fun ls hl => ?_)
    refine lv_aload_n hx hb dL_law_338 rfl (lv_at hl 4 rfl) ?_
    refine ro_V (ci := 7) (q0 := 33) (As := []) (rest := []) (c_X7_thrown l G q_m q_mA q_mN q_mR q_mS q_mC q_mH q_mW q_mB q_mX ((f_X7_good (xs (Int32.toNatClampNeg (x4 + 1))) (xs (Int32.toNatClampNeg (x4 + 2))) mN).2) mK mZ mO mF mQ mU mG mP mY mV mL mE) [33] rfl rfl rfl rfl gT_X7_thrown ⟨_, rfl⟩ hd_X7_thrown rfl dL_law_339 rfl rfl (Nat.le_of_ble_eq_true rfl) ⟨Nat.le_of_ble_eq_true rfl, Nat.le_of_ble_eq_true rfl⟩ ⟨hc8, hs8⟩ hx hb hml hown hts hB hS hP hl.1 ?_
    refine W.eq (g2 := F0 m 342 ls [.int (f_X7_thrown ((f_X7_good (xs (Int32.toNatClampNeg (x4 + 1))) (xs (Int32.toNatClampNeg (x4 + 2))) mN).2))]) rfl ?_
    refine lv_iload hx hb dL_law_342 (lv_at hl 1 rfl) ?_
    refine lv_icmp_eq (tgt := 349) hx hb dL_law_344 (by decide) (fun _ => ?_) (fun c => absurd (eqg_bad hR hbad) c)
    refine lv_iload hx hb dL_law_349 (lv_at hl 1 rfl) ?_
    refine lv_if_ne (tgt := 366) hx hb dL_law_351 (by decide) (fun _ => ?_) (fun c => absurd c (by decide))
    refine lv_goto (tgt := 879) hx hb dL_law_366 (by decide) ?_
    exact hn xF tN tB bC bM bL bD bA bB bZ bG bP bQ dC dM dL dD dA dB dZ dG dP dQ eF eK eS eE eU eN rK rL rG sZ sR sO sL sW sU pN pK pS pE ((f_X7_good (xs (Int32.toNatClampNeg (x4 + 1))) (xs (Int32.toNatClampNeg (x4 + 2))) mN).2) mK mZ mO mF mQ mU mG mP mY mV mL mE mA mN mR mS mC mH mW mB mX lO hR _ _ hP hD hS _ (lv_sub hl [2, 3, 4, 5, 6] rfl)
  · have hnb := hbad
    refine lv_aload_n hx hb dL_law_301 rfl (lv_at hl 1 rfl) ?_
    refine lv_aload_n hx hb dL_law_302 rfl (lv_at hl 0 rfl) ?_
    refine lv_iload hx hb dL_law_303 (lv_at hl 4 rfl) ?_
    refine lv_iconst (v := 1) hx hb dL_law_305 (by decide) ?_
    refine lv_iadd hx hb dL_law_306 ?_
    refine va_sld hx hb hX hbl hbA hS h_1 dL_law_307 ?_
    refine lv_aload_n hx hb dL_law_308 rfl (lv_at hl 0 rfl) ?_
    refine lv_iload hx hb dL_law_309 (lv_at hl 4 rfl) ?_
    refine lv_iconst (v := 2) hx hb dL_law_311 (by decide) ?_
    refine lv_iadd hx hb dL_law_312 ?_
    refine va_sld hx hb hX hbl hbA hS h_2 dL_law_313 ?_
    refine lv_aload_n hx hb dL_law_314 rfl (lv_at hl 3 rfl) ?_
    refine wr_SW (hh := [(0, 10, 13, 13)]) (As := [.ref q_x, .int (xs (Int32.toNatClampNeg (x4 + 1))), .int (xs (Int32.toNatClampNeg (x4 + 2))), .ref q_lO]) (rest := []) (wr := [oX5 q_t q_tB tN, aB G q_tB 740 tB, aI G q_bA 18 bA, aI G q_bB 60 bB, aI G q_bZ 45 bZ, aI G q_bP 3 bP, aI G q_bQ 3 bQ, oX0 q_d q_dA q_dB q_dZ q_dG q_dP q_dQ dC dM dL dD, aI G q_dA 18 dA, aI G q_dB 60 dB, aI G q_dZ 45 dZ, aI G q_dG 24 dG, aI G q_dP 3 dP, aI G q_dQ 3 dQ, oX3 q_e q_t q_d q_eN eF eK eS eE eU, aI G q_eN 6 eN, oX2 q_r q_b q_rK q_rL q_rG, aI G q_rK 256 rK, aI G q_rL 256 rL, aI G q_rG 3 rG, oX4 q_s q_b q_r q_sZ q_sR q_sO q_sL q_sW q_sU, aI G q_sZ 64 sZ, aJ G q_sR 64 sR, aI G q_sO 256 sO, aI G q_sL 256 sL, aJ G q_sW 256 sW, aJ G q_sU 256 sU, aI G q_pE 260 pE, oX7 q_m mT q_mA mK mZ mO mF mQ mU mG mP mY q_mN q_mR q_mS mV mL q_mC q_mH q_mW q_mB q_mX mE, aI G q_mA 740 mA, aI G q_mN 181 mN, aI G q_mR 181 mR, aI G q_mS 1810 mS, aI G q_mC 256 mC, aI G q_mH 256 mH, aI G q_mW 8 mW, aI G q_mB 8 mB, aI G q_mX 8 mX]) (wf := lawW G q_x q_t q_tB q_b q_bA q_bB q_bZ q_bG q_bP q_bQ q_d q_dA q_dB q_dZ q_dG q_dP q_dQ q_e q_eN q_r q_rK q_rL q_rG q_s q_sZ q_sR q_sO q_sL q_sW q_sU q_p q_pS q_pE q_m q_mA q_mN q_mR q_mS q_mC q_mH q_mW q_mB q_mX q_lO xF tN tB bC bM bL bD bA bB bZ bG bP bQ dC dM dL dD dA dB dZ dG dP dQ eF eK eS eE eU eN rK rL rG sZ sR sO sL sW sU pN pK pS pE mT mK mZ mO mF mQ mU mG mP mY mV mL mE mA mN mR mS mC mH mW mB mX ((f_L_good (xs (Int32.toNatClampNeg (x4 + 1))) (xs (Int32.toNatClampNeg (x4 + 2))) pS lO bG bM).2)) (c_L_good l G q_x q_t q_b q_d q_e q_r q_s q_p q_bA q_bB q_bZ q_bG q_bP q_bQ q_pS q_pE q_lO xF bC bM bL bD bG pN pK pS lO (xs (Int32.toNatClampNeg (x4 + 1))) (xs (Int32.toNatClampNeg (x4 + 2))) (kgood_ok hnb)) [0, 3, 7, 30, 31, 43] [1, 2, 4, 5, 6, 8, 9, 10, 11, 12, 13, 14, 15, 16, 17, 18, 19, 20, 21, 22, 23, 24, 25, 26, 27, 28, 29, 32, 33, 34, 35, 36, 37, 38, 39, 40, 41, 42] [38, 0, 1, 39, 2, 3, 4, 40, 5, 6, 7, 8, 9, 10, 11, 12, 13, 14, 15, 16, 17, 18, 19, 20, 21, 22, 23, 24, 25, 26, 41, 42, 27, 28, 29, 30, 31, 32, 33, 34, 35, 36, 37, 43] rfl rfl rfl (by decide) gT_L_good ⟨_, rfl⟩ hd_L_good dL_law_315 rfl rfl (Nat.le_of_ble_eq_true rfl) ⟨Nat.le_of_ble_eq_true rfl, Nat.le_of_ble_eq_true rfl⟩ ⟨hc9, hs9⟩ hx hb hml hown hts hB hD hS hA hP hl.1 (fun H locs hP hD hS => ?_)
    refine W.eq (g2 := F0 m 318 ls [.int ((f_L_good (xs (Int32.toNatClampNeg (x4 + 1))) (xs (Int32.toNatClampNeg (x4 + 2))) pS lO bG bM).1)]) rfl ?_
    refine W.eq (g2 := F0 m 318 ls [.int 0]) rfl ?_
    refine lv_istore (lv' := [(5, .int 0), (0, .ref b), (1, .ref q_x), (2, .ref q_m), (3, .ref q_lO), (4, .int x4)]) hx hb dL_law_318 hl (by decide) rfl (fun ls hl => ?_)
    refine lv_aload_n hx hb dL_law_320 rfl (lv_at hl 3 rfl) ?_
    refine lv_aload_n hx hb dL_law_321 rfl (lv_at hl 1 rfl) ?_
    refine lv_iload hx hb dL_law_322 (lv_at hl 5 rfl) ?_
    refine lv_iconst (v := 1) hx hb dL_law_324 (by decide) ?_
    refine lv_iadd hx hb dL_law_325 ?_
    refine va_sld hx hb hX hbl hbA hS h_1 dL_law_326 ?_
    refine lv_aload_n hx hb dL_law_327 rfl (lv_at hl 1 rfl) ?_
    refine lv_iload hx hb dL_law_328 (lv_at hl 5 rfl) ?_
    refine lv_iconst (v := 2) hx hb dL_law_330 (by decide) ?_
    refine lv_iadd hx hb dL_law_331 ?_
    refine va_sld hx hb hX hbl hbA hS h_2 dL_law_332 ?_
    refine wr_V (ci := 7) (q0 := 33) (As := [.int (xs (Int32.toNatClampNeg (x4 + 1))), .int (xs (Int32.toNatClampNeg (x4 + 2)))]) (rest := []) (wr := [oX6 q_x q_t q_b q_d q_e q_r q_s q_p xF, oX5 q_t q_tB tN, aB G q_tB 740 tB, oX0 q_b q_bA q_bB q_bZ q_bG q_bP q_bQ bC bM bL bD, aI G q_bA 18 bA, aI G q_bB 60 bB, aI G q_bZ 45 bZ, aI G q_bG 24 bG, aI G q_bP 3 bP, aI G q_bQ 3 bQ, oX0 q_d q_dA q_dB q_dZ q_dG q_dP q_dQ dC dM dL dD, aI G q_dA 18 dA, aI G q_dB 60 dB, aI G q_dZ 45 dZ, aI G q_dG 24 dG, aI G q_dP 3 dP, aI G q_dQ 3 dQ, oX3 q_e q_t q_d q_eN eF eK eS eE eU, aI G q_eN 6 eN, oX2 q_r q_b q_rK q_rL q_rG, aI G q_rK 256 rK, aI G q_rL 256 rL, aI G q_rG 3 rG, oX4 q_s q_b q_r q_sZ q_sR q_sO q_sL q_sW q_sU, aI G q_sZ 64 sZ, aJ G q_sR 64 sR, aI G q_sO 256 sO, aI G q_sL 256 sL, aJ G q_sW 256 sW, aJ G q_sU 256 sU, oX1 q_p q_pS q_pE pN pK, aI G q_pS 26 pS, aI G q_pE 260 pE, aI G q_mA 740 mA, aI G q_mR 181 mR, aI G q_mS 1810 mS, aI G q_mC 256 mC, aI G q_mH 256 mH, aI G q_mW 8 mW, aI G q_mB 8 mB, aI G q_mX 8 mX, aJ G q_lO 1 ((f_L_good (xs (Int32.toNatClampNeg (x4 + 1))) (xs (Int32.toNatClampNeg (x4 + 2))) pS lO bG bM).2)]) (wf := lawW G q_x q_t q_tB q_b q_bA q_bB q_bZ q_bG q_bP q_bQ q_d q_dA q_dB q_dZ q_dG q_dP q_dQ q_e q_eN q_r q_rK q_rL q_rG q_s q_sZ q_sR q_sO q_sL q_sW q_sU q_p q_pS q_pE q_m q_mA q_mN q_mR q_mS q_mC q_mH q_mW q_mB q_mX q_lO xF tN tB bC bM bL bD bA bB bZ bG bP bQ dC dM dL dD dA dB dZ dG dP dQ eF eK eS eE eU eN rK rL rG sZ sR sO sL sW sU pN pK pS pE ((f_X7_good (xs (Int32.toNatClampNeg (x4 + 1))) (xs (Int32.toNatClampNeg (x4 + 2))) mN).2) mK mZ mO mF mQ mU mG mP mY mV mL mE mA mN mR mS mC mH mW mB mX ((f_L_good (xs (Int32.toNatClampNeg (x4 + 1))) (xs (Int32.toNatClampNeg (x4 + 2))) pS lO bG bM).2)) (c_X7_good l G q_m q_mA q_mN q_mR q_mS q_mC q_mH q_mW q_mB q_mX mT mK mZ mO mF mQ mU mG mP mY mV mL mE mN (xs (Int32.toNatClampNeg (x4 + 1))) (xs (Int32.toNatClampNeg (x4 + 2))) (pk_X7_good hR (xs (Int32.toNatClampNeg (x4 + 1))) (xs (Int32.toNatClampNeg (x4 + 2))))) [33, 35] [0, 1, 2, 3, 4, 5, 6, 7, 8, 9, 10, 11, 12, 13, 14, 15, 16, 17, 18, 19, 20, 21, 22, 23, 24, 25, 26, 27, 28, 29, 30, 31, 32, 34, 36, 37, 38, 39, 40, 41, 42, 43] [0, 1, 2, 3, 4, 5, 6, 7, 8, 9, 10, 11, 12, 13, 14, 15, 16, 17, 18, 19, 20, 21, 22, 23, 24, 25, 26, 27, 28, 29, 30, 31, 32, 42, 33, 43, 34, 35, 36, 37, 38, 39, 40, 41] rfl rfl rfl (by decide) rfl rfl rfl gT_X7_good ⟨_, rfl⟩ hd_X7_good rfl dL_law_333 rfl rfl (Nat.le_of_ble_eq_true rfl) ⟨Nat.le_of_ble_eq_true rfl, Nat.le_of_ble_eq_true rfl⟩ ⟨hc9, hs9⟩ hx hb hml hown hts hB hD hS hA hP hl.1 (fun H locs hP hD hS => ?_)
    refine W.eq (g2 := F0 m 336 ls [.int ((f_X7_good (xs (Int32.toNatClampNeg (x4 + 1))) (xs (Int32.toNatClampNeg (x4 + 2))) mN).1)]) rfl ?_
    refine lv_istore (lv' := [(6, .int ((f_X7_good (xs (Int32.toNatClampNeg (x4 + 1))) (xs (Int32.toNatClampNeg (x4 + 2))) mN).1)), (5, .int 0), (0, .ref b), (1, .ref q_x), (2, .ref q_m), (3, .ref q_lO), (4, .int x4)]) hx hb dL_law_336 hl (by decide) rfl (fun ls hl => ?_)
    refine lv_aload_n hx hb dL_law_338 rfl (lv_at hl 4 rfl) ?_
    refine ro_V (ci := 7) (q0 := 33) (As := []) (rest := []) (c_X7_thrown l G q_m q_mA q_mN q_mR q_mS q_mC q_mH q_mW q_mB q_mX ((f_X7_good (xs (Int32.toNatClampNeg (x4 + 1))) (xs (Int32.toNatClampNeg (x4 + 2))) mN).2) mK mZ mO mF mQ mU mG mP mY mV mL mE) [33] rfl rfl rfl rfl gT_X7_thrown ⟨_, rfl⟩ hd_X7_thrown rfl dL_law_339 rfl rfl (Nat.le_of_ble_eq_true rfl) ⟨Nat.le_of_ble_eq_true rfl, Nat.le_of_ble_eq_true rfl⟩ ⟨hc9, hs9⟩ hx hb hml hown hts hB hS hP hl.1 ?_
    refine W.eq (g2 := F0 m 342 ls [.int (f_X7_thrown ((f_X7_good (xs (Int32.toNatClampNeg (x4 + 1))) (xs (Int32.toNatClampNeg (x4 + 2))) mN).2))]) rfl ?_
    refine lv_iload hx hb dL_law_342 (lv_at hl 1 rfl) ?_
    refine lv_icmp_eq (tgt := 349) hx hb dL_law_344 (by decide) (fun _ => ?_) (fun c => absurd (eqg_t hR hnb) c)
    refine lv_iload hx hb dL_law_349 (lv_at hl 1 rfl) ?_
    refine lv_if_ne (tgt := 366) hx hb dL_law_351 (by decide) (fun c => absurd rfl c) (fun _ => ?_)
    refine lv_aload_n hx hb dL_law_354 rfl (lv_at hl 5 rfl) ?_
    refine lv_iconst (v := 0) hx hb dL_law_355 (by decide) ?_
    refine va_lald hx hb hB.1 hP 43 2 rfl rfl (by unfold vp_in; decide) dL_law_356 ?_
    refine lv_iload hx hb dL_law_357 (lv_at hl 0 rfl) ?_
    refine lv_i2l (v := (Int32.toInt64 ((f_X7_good (xs (Int32.toNatClampNeg (x4 + 1))) (xs (Int32.toNatClampNeg (x4 + 2))) mN).1))) hx hb dL_law_359 rfl ?_
    refine W.lcmp hx hb dL_law_360 ?_
    refine lv_if_eq (tgt := 366) hx hb dL_law_361 (by decide) (fun _ => ?_) (fun c => absurd (eqg_v hR hnb) c)
    refine lv_goto (tgt := 879) hx hb dL_law_366 (by decide) ?_
    refine W.widen (k := 50 + i + 1) (n := 7000 + 6 * i + 6) (by omega) (by omega) ?_
    exact hn xF tN tB bC bM bL bD bA bB bZ bG bP bQ dC dM dL dD dA dB dZ dG dP dQ eF eK eS eE eU eN rK rL rG sZ sR sO sL sW sU pN pK pS pE ((f_X7_good (xs (Int32.toNatClampNeg (x4 + 1))) (xs (Int32.toNatClampNeg (x4 + 2))) mN).2) mK mZ mO mF mQ mU mG mP mY mV mL mE mA mN mR mS mC mH mW mB mX ((f_L_good (xs (Int32.toNatClampNeg (x4 + 1))) (xs (Int32.toNatClampNeg (x4 + 2))) pS lO bG bM).2) hR _ _ hP hD hS _ (lv_sub hl [2, 3, 4, 5, 6] rfl)
end LAWG
