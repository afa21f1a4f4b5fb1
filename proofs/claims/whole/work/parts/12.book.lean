noncomputable def f_X0_breakStart (x0 : Int32) (x1 : Int32) : Int32 := (((x0 * 5) + x1) * 4)
theorem hd_X0_breakStart : yX0_breakStart.cls ≠ "java/lang/invoke/MethodHandle" ∧ yX0_breakStart.cls ≠ "java/lang/invoke/VarHandle" ∧ (parseMethodDescriptor yX0_breakStart.desc).map (fun d => d.parameters.length) = some 2 := by decide +kernel
set_option maxHeartbeats 4000000 in
set_option maxRecDepth 100000 in
theorem c_X0_breakStart (l : Launch) (G : BGT) (x0 : Int32) (x1 : Int32) : RO l yX0_breakStart wsX0_breakStart 0 G [] [.int x0, .int x1] (some (.int (f_X0_breakStart x0 x1))) := by
  refine RO.ofW (cc := cX0_breakStart) (maxL := 2) (ret := (some .int)) (C := RX0) (by decide) rfl rfl (Nat.le_of_ble_eq_true rfl) ?_
  intro p e s m args below meth c Q ls hx hb hml hts hown hP hB hl fi fl fv
  have hS : va_S (fun _ => False) s.heap s.heap [] := va_S.rf
  have hl : lv_has ls 2 [(0, .int x0), (1, .int x1)] := hl
  refine lv_iload_n hx hb dX0_breakStart_0 rfl (lv_at hl 0 rfl) ?_
  refine lv_iconst (v := 5) hx hb dX0_breakStart_1 (by decide) ?_
  refine lv_imul hx hb dX0_breakStart_2 ?_
  refine lv_iload_n hx hb dX0_breakStart_3 rfl (lv_at hl 1 rfl) ?_
  refine lv_iadd hx hb dX0_breakStart_4 ?_
  refine lv_iconst (v := 4) hx hb dX0_breakStart_5 (by decide) ?_
  refine lv_imul hx hb dX0_breakStart_6 ?_
  exact fi 7 _ (((x0 * 5) + x1) * 4) .int rfl rfl dX0_breakStart_7 (by rw [f_X0_breakStart])

noncomputable def f_X0_zonesStart (x0 : Int32) (x1 : Int32) : Int32 := (((x0 * 3) + x1) * 5)
theorem hd_X0_zonesStart : yX0_zonesStart.cls ≠ "java/lang/invoke/MethodHandle" ∧ yX0_zonesStart.cls ≠ "java/lang/invoke/VarHandle" ∧ (parseMethodDescriptor yX0_zonesStart.desc).map (fun d => d.parameters.length) = some 2 := by decide +kernel
set_option maxHeartbeats 4000000 in
set_option maxRecDepth 100000 in
theorem c_X0_zonesStart (l : Launch) (G : BGT) (x0 : Int32) (x1 : Int32) : RO l yX0_zonesStart wsX0_zonesStart 0 G [] [.int x0, .int x1] (some (.int (f_X0_zonesStart x0 x1))) := by
  refine RO.ofW (cc := cX0_zonesStart) (maxL := 2) (ret := (some .int)) (C := RX0) (by decide) rfl rfl (Nat.le_of_ble_eq_true rfl) ?_
  intro p e s m args below meth c Q ls hx hb hml hts hown hP hB hl fi fl fv
  have hS : va_S (fun _ => False) s.heap s.heap [] := va_S.rf
  have hl : lv_has ls 2 [(0, .int x0), (1, .int x1)] := hl
  refine lv_iload_n hx hb dX0_zonesStart_0 rfl (lv_at hl 0 rfl) ?_
  refine lv_iconst (v := 3) hx hb dX0_zonesStart_1 (by decide) ?_
  refine lv_imul hx hb dX0_zonesStart_2 ?_
  refine lv_iload_n hx hb dX0_zonesStart_3 rfl (lv_at hl 1 rfl) ?_
  refine lv_iadd hx hb dX0_zonesStart_4 ?_
  refine lv_iconst (v := 5) hx hb dX0_zonesStart_5 (by decide) ?_
  refine lv_imul hx hb dX0_zonesStart_6 ?_
  exact fi 7 _ (((x0 * 3) + x1) * 5) .int rfl rfl dX0_zonesStart_7 (by rw [f_X0_zonesStart])

noncomputable def f_X0_carrierCount (bC : Int32) : Int32 := bC
theorem hd_X0_carrierCount : yX0_carrierCount.cls ≠ "java/lang/invoke/MethodHandle" ∧ yX0_carrierCount.cls ≠ "java/lang/invoke/VarHandle" ∧ (parseMethodDescriptor yX0_carrierCount.desc).map (fun d => d.parameters.length) = some 0 := by decide +kernel
set_option maxHeartbeats 4000000 in
set_option maxRecDepth 100000 in
theorem c_X0_carrierCount (l : Launch) (G : BGT) (q_b q_bA q_bB q_bZ q_bG q_bP q_bQ : Nat) (bC : Int32) (bM : Int32) (bL : Int32) (bD : Int32) : RO l yX0_carrierCount wsX0_carrierCount 0 G [oX0 q_b q_bA q_bB q_bZ q_bG q_bP q_bQ bC bM bL bD] [.ref q_b] (some (.int (f_X0_carrierCount bC))) := by
  refine RO.ofW (cc := cX0_carrierCount) (maxL := 1) (ret := (some .int)) (C := RX0) (by decide) rfl rfl (Nat.le_of_ble_eq_true rfl) ?_
  intro p e s m args below meth c Q ls hx hb hml hts hown hP hB hl fi fl fv
  have hS : va_S (fun _ => False) s.heap s.heap [] := va_S.rf
  have hl : lv_has ls 1 [(0, .ref q_b)] := hl
  have t_0 := hts (.fieldLink RX0 36 "ParcelSplit$Book" "carrierCount" "I") (by decide +kernel)
  have i_X0 : ∀ w ∈ wsX00, w ∈ wsX0_carrierCount := by decide +kernel
  refine lv_aload_n hx hb dX0_carrierCount_0 rfl (lv_at hl 0 rfl) ?_
  refine va_get (D := gD G) (ci := 0) (v := .int bC) (C := RX0) (T := TX0) (N := 10) hx hb hts i_X0 hown hB.1 hP 0 rfl rfl 6 (by decide) t_0 (fun _ h9 => h9) rfl dX0_carrierCount_1 ?_
  exact fi 4 _ bC .int rfl rfl dX0_carrierCount_4 (by rw [f_X0_carrierCount])

noncomputable def f_X0_goodCount (bM : Int32) : Int32 := bM
theorem hd_X0_goodCount : yX0_goodCount.cls ≠ "java/lang/invoke/MethodHandle" ∧ yX0_goodCount.cls ≠ "java/lang/invoke/VarHandle" ∧ (parseMethodDescriptor yX0_goodCount.desc).map (fun d => d.parameters.length) = some 0 := by decide +kernel
set_option maxHeartbeats 4000000 in
set_option maxRecDepth 100000 in
theorem c_X0_goodCount (l : Launch) (G : BGT) (q_b q_bA q_bB q_bZ q_bG q_bP q_bQ : Nat) (bC : Int32) (bM : Int32) (bL : Int32) (bD : Int32) : RO l yX0_goodCount wsX0_goodCount 0 G [oX0 q_b q_bA q_bB q_bZ q_bG q_bP q_bQ bC bM bL bD] [.ref q_b] (some (.int (f_X0_goodCount bM))) := by
  refine RO.ofW (cc := cX0_goodCount) (maxL := 1) (ret := (some .int)) (C := RX0) (by decide) rfl rfl (Nat.le_of_ble_eq_true rfl) ?_
  intro p e s m args below meth c Q ls hx hb hml hts hown hP hB hl fi fl fv
  have hS : va_S (fun _ => False) s.heap s.heap [] := va_S.rf
  have hl : lv_has ls 1 [(0, .ref q_b)] := hl
  have t_0 := hts (.fieldLink RX0 40 "ParcelSplit$Book" "goodCount" "I") (by decide +kernel)
  have i_X0 : ∀ w ∈ wsX00, w ∈ wsX0_goodCount := by decide +kernel
  refine lv_aload_n hx hb dX0_goodCount_0 rfl (lv_at hl 0 rfl) ?_
  refine va_get (D := gD G) (ci := 0) (v := .int bM) (C := RX0) (T := TX0) (N := 10) hx hb hts i_X0 hown hB.1 hP 0 rfl rfl 7 (by decide) t_0 (fun _ h9 => h9) rfl dX0_goodCount_1 ?_
  exact fi 4 _ bM .int rfl rfl dX0_goodCount_4 (by rw [f_X0_goodCount])

noncomputable def f_X0_place (bL : Int32) : Int32 := bL
theorem hd_X0_place : yX0_place.cls ≠ "java/lang/invoke/MethodHandle" ∧ yX0_place.cls ≠ "java/lang/invoke/VarHandle" ∧ (parseMethodDescriptor yX0_place.desc).map (fun d => d.parameters.length) = some 0 := by decide +kernel
set_option maxHeartbeats 4000000 in
set_option maxRecDepth 100000 in
theorem c_X0_place (l : Launch) (G : BGT) (q_b q_bA q_bB q_bZ q_bG q_bP q_bQ : Nat) (bC : Int32) (bM : Int32) (bL : Int32) (bD : Int32) : RO l yX0_place wsX0_place 0 G [oX0 q_b q_bA q_bB q_bZ q_bG q_bP q_bQ bC bM bL bD] [.ref q_b] (some (.int (f_X0_place bL))) := by
  refine RO.ofW (cc := cX0_place) (maxL := 1) (ret := (some .int)) (C := RX0) (by decide) rfl rfl (Nat.le_of_ble_eq_true rfl) ?_
  intro p e s m args below meth c Q ls hx hb hml hts hown hP hB hl fi fl fv
  have hS : va_S (fun _ => False) s.heap s.heap [] := va_S.rf
  have hl : lv_has ls 1 [(0, .ref q_b)] := hl
  have t_0 := hts (.fieldLink RX0 43 "ParcelSplit$Book" "place" "I") (by decide +kernel)
  have i_X0 : ∀ w ∈ wsX00, w ∈ wsX0_place := by decide +kernel
  refine lv_aload_n hx hb dX0_place_0 rfl (lv_at hl 0 rfl) ?_
  refine va_get (D := gD G) (ci := 0) (v := .int bL) (C := RX0) (T := TX0) (N := 10) hx hb hts i_X0 hown hB.1 hP 0 rfl rfl 8 (by decide) t_0 (fun _ h9 => h9) rfl dX0_place_1 ?_
  exact fi 4 _ bL .int rfl rfl dX0_place_4 (by rw [f_X0_place])

noncomputable def f_X0_day (bD : Int32) : Int32 := bD
theorem hd_X0_day : yX0_day.cls ≠ "java/lang/invoke/MethodHandle" ∧ yX0_day.cls ≠ "java/lang/invoke/VarHandle" ∧ (parseMethodDescriptor yX0_day.desc).map (fun d => d.parameters.length) = some 0 := by decide +kernel
set_option maxHeartbeats 4000000 in
set_option maxRecDepth 100000 in
theorem c_X0_day (l : Launch) (G : BGT) (q_b q_bA q_bB q_bZ q_bG q_bP q_bQ : Nat) (bC : Int32) (bM : Int32) (bL : Int32) (bD : Int32) : RO l yX0_day wsX0_day 0 G [oX0 q_b q_bA q_bB q_bZ q_bG q_bP q_bQ bC bM bL bD] [.ref q_b] (some (.int (f_X0_day bD))) := by
  refine RO.ofW (cc := cX0_day) (maxL := 1) (ret := (some .int)) (C := RX0) (by decide) rfl rfl (Nat.le_of_ble_eq_true rfl) ?_
  intro p e s m args below meth c Q ls hx hb hml hts hown hP hB hl fi fl fv
  have hS : va_S (fun _ => False) s.heap s.heap [] := va_S.rf
  have hl : lv_has ls 1 [(0, .ref q_b)] := hl
  have t_0 := hts (.fieldLink RX0 46 "ParcelSplit$Book" "day" "I") (by decide +kernel)
  have i_X0 : ∀ w ∈ wsX00, w ∈ wsX0_day := by decide +kernel
  refine lv_aload_n hx hb dX0_day_0 rfl (lv_at hl 0 rfl) ?_
  refine va_get (D := gD G) (ci := 0) (v := .int bD) (C := RX0) (T := TX0) (N := 10) hx hb hts i_X0 hown hB.1 hP 0 rfl rfl 9 (by decide) t_0 (fun _ h9 => h9) rfl dX0_day_1 ?_
  exact fi 4 _ bD .int rfl rfl dX0_day_4 (by rw [f_X0_day])

noncomputable def f_X0_breakCount (x1 : Int32) (bP : Nat → Int32) : Int32 := (f_X6_at x1 bP 3)
theorem hd_X0_breakCount : yX0_breakCount.cls ≠ "java/lang/invoke/MethodHandle" ∧ yX0_breakCount.cls ≠ "java/lang/invoke/VarHandle" ∧ (parseMethodDescriptor yX0_breakCount.desc).map (fun d => d.parameters.length) = some 1 := by decide +kernel
set_option maxHeartbeats 4000000 in
set_option maxRecDepth 100000 in
theorem c_X0_breakCount (l : Launch) (G : BGT) (q_b q_bA q_bB q_bZ q_bG q_bP q_bQ : Nat) (bC : Int32) (bM : Int32) (bL : Int32) (bD : Int32) (bP : Nat → Int32) (x1 : Int32) : RO l yX0_breakCount wsX0_breakCount 1 G [oX0 q_b q_bA q_bB q_bZ q_bG q_bP q_bQ bC bM bL bD, aI G q_bP 3 bP] [.ref q_b, .int x1] (some (.int (f_X0_breakCount x1 bP))) := by
  refine RO.ofW (cc := cX0_breakCount) (maxL := 2) (ret := (some .int)) (C := RX0) (by decide) rfl rfl (Nat.le_of_ble_eq_true rfl) ?_
  intro p e s m args below meth c Q ls hx hb hml hts hown hP hB hl fi fl fv
  have hS : va_S (fun _ => False) s.heap s.heap [] := va_S.rf
  have hl : lv_has ls 2 [(0, .ref q_b), (1, .int x1)] := hl
  have t_0 := hts (.fieldLink RX0 24 "ParcelSplit$Book" "breakCounts" "[I") (by decide +kernel)
  have m_0 : Cond.initialized RX6 ∈ wsX0_breakCount := by decide +kernel
  have m_1 : Cond.static yX6_at ∈ wsX0_breakCount := by decide +kernel
  have i_X0 : ∀ w ∈ wsX00, w ∈ wsX0_breakCount := by decide +kernel
  refine lv_aload_n hx hb dX0_breakCount_0 rfl (lv_at hl 0 rfl) ?_
  refine va_get (D := gD G) (ci := 0) (v := .ref q_bP) (C := RX0) (T := TX0) (N := 10) hx hb hts i_X0 hown hB.1 hP 0 rfl rfl 4 (by decide) t_0 (fun _ h9 => h9) rfl dX0_breakCount_1 ?_
  refine lv_iload_n hx hb dX0_breakCount_4 rfl (lv_at hl 1 rfl) ?_
  refine ro_SN (As := [.ref q_bP, .int x1]) (rest := []) (c_X6_at l G 3 (by decide) q_bP bP x1) [1] rfl gX0_breakCount_X6_at_n87 ⟨_, rfl⟩ hd_X6_at 4 rfl m_0 m_1 dX0_breakCount_5 rfl rfl (Nat.le_of_ble_eq_true rfl) ⟨Nat.le_of_ble_eq_true rfl, Nat.le_of_ble_eq_true rfl⟩ ⟨Nat.le_refl 0, Nat.le_refl 0⟩ hx hb hml hown hts hB hS hP hl.1 ?_
  refine W.eq (g2 := F0 m 8 ls [.int (f_X6_at x1 bP 3)]) rfl ?_
  exact fi 8 _ (f_X6_at x1 bP 3) .int rfl rfl dX0_breakCount_8 (by rw [f_X0_breakCount])

noncomputable def f_X0_zonesCount (x1 : Int32) (bQ : Nat → Int32) : Int32 := (f_X6_at x1 bQ 3)
theorem hd_X0_zonesCount : yX0_zonesCount.cls ≠ "java/lang/invoke/MethodHandle" ∧ yX0_zonesCount.cls ≠ "java/lang/invoke/VarHandle" ∧ (parseMethodDescriptor yX0_zonesCount.desc).map (fun d => d.parameters.length) = some 1 := by decide +kernel
set_option maxHeartbeats 4000000 in
set_option maxRecDepth 100000 in
theorem c_X0_zonesCount (l : Launch) (G : BGT) (q_b q_bA q_bB q_bZ q_bG q_bP q_bQ : Nat) (bC : Int32) (bM : Int32) (bL : Int32) (bD : Int32) (bQ : Nat → Int32) (x1 : Int32) : RO l yX0_zonesCount wsX0_zonesCount 1 G [oX0 q_b q_bA q_bB q_bZ q_bG q_bP q_bQ bC bM bL bD, aI G q_bQ 3 bQ] [.ref q_b, .int x1] (some (.int (f_X0_zonesCount x1 bQ))) := by
  refine RO.ofW (cc := cX0_zonesCount) (maxL := 2) (ret := (some .int)) (C := RX0) (by decide) rfl rfl (Nat.le_of_ble_eq_true rfl) ?_
  intro p e s m args below meth c Q ls hx hb hml hts hown hP hB hl fi fl fv
  have hS : va_S (fun _ => False) s.heap s.heap [] := va_S.rf
  have hl : lv_has ls 2 [(0, .ref q_b), (1, .int x1)] := hl
  have t_0 := hts (.fieldLink RX0 27 "ParcelSplit$Book" "zonesCounts" "[I") (by decide +kernel)
  have m_0 : Cond.initialized RX6 ∈ wsX0_zonesCount := by decide +kernel
  have m_1 : Cond.static yX6_at ∈ wsX0_zonesCount := by decide +kernel
  have i_X0 : ∀ w ∈ wsX00, w ∈ wsX0_zonesCount := by decide +kernel
  refine lv_aload_n hx hb dX0_zonesCount_0 rfl (lv_at hl 0 rfl) ?_
  refine va_get (D := gD G) (ci := 0) (v := .ref q_bQ) (C := RX0) (T := TX0) (N := 10) hx hb hts i_X0 hown hB.1 hP 0 rfl rfl 5 (by decide) t_0 (fun _ h9 => h9) rfl dX0_zonesCount_1 ?_
  refine lv_iload_n hx hb dX0_zonesCount_4 rfl (lv_at hl 1 rfl) ?_
  refine ro_SN (As := [.ref q_bQ, .int x1]) (rest := []) (c_X6_at l G 3 (by decide) q_bQ bQ x1) [1] rfl gX0_zonesCount_X6_at_n87 ⟨_, rfl⟩ hd_X6_at 4 rfl m_0 m_1 dX0_zonesCount_5 rfl rfl (Nat.le_of_ble_eq_true rfl) ⟨Nat.le_of_ble_eq_true rfl, Nat.le_of_ble_eq_true rfl⟩ ⟨Nat.le_refl 0, Nat.le_refl 0⟩ hx hb hml hown hts hB hS hP hl.1 ?_
  refine W.eq (g2 := F0 m 8 ls [.int (f_X6_at x1 bQ 3)]) rfl ?_
  exact fi 8 _ (f_X6_at x1 bQ 3) .int rfl rfl dX0_zonesCount_8 (by rw [f_X0_zonesCount])

noncomputable def f_X0_carrierNumber (x1 : Int32) (x2 : Int32) (bA : Nat → Int32) : Int32 := (f_X6_at ((x1 * 6) + x2) bA 18)
theorem hd_X0_carrierNumber : yX0_carrierNumber.cls ≠ "java/lang/invoke/MethodHandle" ∧ yX0_carrierNumber.cls ≠ "java/lang/invoke/VarHandle" ∧ (parseMethodDescriptor yX0_carrierNumber.desc).map (fun d => d.parameters.length) = some 2 := by decide +kernel
set_option maxHeartbeats 4000000 in
set_option maxRecDepth 100000 in
theorem c_X0_carrierNumber (l : Launch) (G : BGT) (q_b q_bA q_bB q_bZ q_bG q_bP q_bQ : Nat) (bC : Int32) (bM : Int32) (bL : Int32) (bD : Int32) (bA : Nat → Int32) (x1 : Int32) (x2 : Int32) : RO l yX0_carrierNumber wsX0_carrierNumber 1 G [oX0 q_b q_bA q_bB q_bZ q_bG q_bP q_bQ bC bM bL bD, aI G q_bA 18 bA] [.ref q_b, .int x1, .int x2] (some (.int (f_X0_carrierNumber x1 x2 bA))) := by
  refine RO.ofW (cc := cX0_carrierNumber) (maxL := 3) (ret := (some .int)) (C := RX0) (by decide) rfl rfl (Nat.le_of_ble_eq_true rfl) ?_
  intro p e s m args below meth c Q ls hx hb hml hts hown hP hB hl fi fl fv
  have hS : va_S (fun _ => False) s.heap s.heap [] := va_S.rf
  have hl : lv_has ls 3 [(0, .ref q_b), (1, .int x1), (2, .int x2)] := hl
  have t_0 := hts (.fieldLink RX0 11 "ParcelSplit$Book" "carriers" "[I") (by decide +kernel)
  have m_0 : Cond.initialized RX6 ∈ wsX0_carrierNumber := by decide +kernel
  have m_1 : Cond.static yX6_at ∈ wsX0_carrierNumber := by decide +kernel
  have i_X0 : ∀ w ∈ wsX00, w ∈ wsX0_carrierNumber := by decide +kernel
  refine lv_aload_n hx hb dX0_carrierNumber_0 rfl (lv_at hl 0 rfl) ?_
  refine va_get (D := gD G) (ci := 0) (v := .ref q_bA) (C := RX0) (T := TX0) (N := 10) hx hb hts i_X0 hown hB.1 hP 0 rfl rfl 0 (by decide) t_0 (fun _ h9 => h9) rfl dX0_carrierNumber_1 ?_
  refine lv_iload_n hx hb dX0_carrierNumber_4 rfl (lv_at hl 1 rfl) ?_
  refine lv_bipush (v := 6) hx hb dX0_carrierNumber_5 (by decide) ?_
  refine lv_imul hx hb dX0_carrierNumber_7 ?_
  refine lv_iload_n hx hb dX0_carrierNumber_8 rfl (lv_at hl 2 rfl) ?_
  refine lv_iadd hx hb dX0_carrierNumber_9 ?_
  refine ro_SN (As := [.ref q_bA, .int ((x1 * 6) + x2)]) (rest := []) (c_X6_at l G 18 (by decide) q_bA bA ((x1 * 6) + x2)) [1] rfl gX0_carrierNumber_X6_at_n87 ⟨_, rfl⟩ hd_X6_at 4 rfl m_0 m_1 dX0_carrierNumber_10 rfl rfl (Nat.le_of_ble_eq_true rfl) ⟨Nat.le_of_ble_eq_true rfl, Nat.le_of_ble_eq_true rfl⟩ ⟨Nat.le_refl 0, Nat.le_refl 0⟩ hx hb hml hown hts hB hS hP hl.1 ?_
  refine W.eq (g2 := F0 m 13 ls [.int (f_X6_at ((x1 * 6) + x2) bA 18)]) rfl ?_
  exact fi 13 _ (f_X6_at ((x1 * 6) + x2) bA 18) .int rfl rfl dX0_carrierNumber_13 (by rw [f_X0_carrierNumber])

noncomputable def f_X0_breakNumber (x1 : Int32) (x2 : Int32) (x3 : Int32) (bB : Nat → Int32) : Int32 := (f_X6_at ((f_X0_breakStart x1 x2) + x3) bB 60)
theorem hd_X0_breakNumber : yX0_breakNumber.cls ≠ "java/lang/invoke/MethodHandle" ∧ yX0_breakNumber.cls ≠ "java/lang/invoke/VarHandle" ∧ (parseMethodDescriptor yX0_breakNumber.desc).map (fun d => d.parameters.length) = some 3 := by decide +kernel
set_option maxHeartbeats 4000000 in
set_option maxRecDepth 100000 in
theorem c_X0_breakNumber (l : Launch) (G : BGT) (q_b q_bA q_bB q_bZ q_bG q_bP q_bQ : Nat) (bC : Int32) (bM : Int32) (bL : Int32) (bD : Int32) (bB : Nat → Int32) (x1 : Int32) (x2 : Int32) (x3 : Int32) : RO l yX0_breakNumber wsX0_breakNumber 1 G [oX0 q_b q_bA q_bB q_bZ q_bG q_bP q_bQ bC bM bL bD, aI G q_bB 60 bB] [.ref q_b, .int x1, .int x2, .int x3] (some (.int (f_X0_breakNumber x1 x2 x3 bB))) := by
  refine RO.ofW (cc := cX0_breakNumber) (maxL := 4) (ret := (some .int)) (C := RX0) (by decide) rfl rfl (Nat.le_of_ble_eq_true rfl) ?_
  intro p e s m args below meth c Q ls hx hb hml hts hown hP hB hl fi fl fv
  have hS : va_S (fun _ => False) s.heap s.heap [] := va_S.rf
  have hl : lv_has ls 4 [(0, .ref q_b), (1, .int x1), (2, .int x2), (3, .int x3)] := hl
  have t_0 := hts (.fieldLink RX0 15 "ParcelSplit$Book" "breaks" "[I") (by decide +kernel)
  have m_0 : Cond.initialized RX6 ∈ wsX0_breakNumber := by decide +kernel
  have m_1 : Cond.static yX6_at ∈ wsX0_breakNumber := by decide +kernel
  have i_X0 : ∀ w ∈ wsX00, w ∈ wsX0_breakNumber := by decide +kernel
  refine lv_aload_n hx hb dX0_breakNumber_0 rfl (lv_at hl 0 rfl) ?_
  refine va_get (D := gD G) (ci := 0) (v := .ref q_bB) (C := RX0) (T := TX0) (N := 10) hx hb hts i_X0 hown hB.1 hP 0 rfl rfl 1 (by decide) t_0 (fun _ h9 => h9) rfl dX0_breakNumber_1 ?_
  refine lv_iload_n hx hb dX0_breakNumber_4 rfl (lv_at hl 1 rfl) ?_
  refine lv_iload_n hx hb dX0_breakNumber_5 rfl (lv_at hl 2 rfl) ?_
  refine ro_S (As := [.int x1, .int x2]) (rest := [.ref q_bB]) (c_X0_breakStart l G x1 x2) [] rfl gX0_breakNumber_X0_breakStart ⟨_, rfl⟩ hd_X0_breakStart dX0_breakNumber_6 rfl rfl (Nat.le_of_ble_eq_true rfl) ⟨Nat.le_of_ble_eq_true rfl, Nat.le_of_ble_eq_true rfl⟩ ⟨Nat.le_refl 0, Nat.le_refl 0⟩ hx hb hml hown hts hB hS hP hl.1 ?_
  refine W.eq (g2 := F0 m 9 ls [.int (f_X0_breakStart x1 x2), .ref q_bB]) rfl ?_
  refine lv_iload_n hx hb dX0_breakNumber_9 rfl (lv_at hl 3 rfl) ?_
  refine lv_iadd hx hb dX0_breakNumber_10 ?_
  refine ro_SN (As := [.ref q_bB, .int ((f_X0_breakStart x1 x2) + x3)]) (rest := []) (c_X6_at l G 60 (by decide) q_bB bB ((f_X0_breakStart x1 x2) + x3)) [1] rfl gX0_breakNumber_X6_at_n87 ⟨_, rfl⟩ hd_X6_at 4 rfl m_0 m_1 dX0_breakNumber_11 rfl rfl (Nat.le_of_ble_eq_true rfl) ⟨Nat.le_of_ble_eq_true rfl, Nat.le_of_ble_eq_true rfl⟩ ⟨Nat.le_refl 0, Nat.le_refl 0⟩ hx hb hml hown hts hB hS hP hl.1 ?_
  refine W.eq (g2 := F0 m 14 ls [.int (f_X6_at ((f_X0_breakStart x1 x2) + x3) bB 60)]) rfl ?_
  exact fi 14 _ (f_X6_at ((f_X0_breakStart x1 x2) + x3) bB 60) .int rfl rfl dX0_breakNumber_14 (by rw [f_X0_breakNumber])

noncomputable def f_X0_zonesNumber (x1 : Int32) (x2 : Int32) (x3 : Int32) (bZ : Nat → Int32) : Int32 := (f_X6_at ((f_X0_zonesStart x1 x2) + x3) bZ 45)
theorem hd_X0_zonesNumber : yX0_zonesNumber.cls ≠ "java/lang/invoke/MethodHandle" ∧ yX0_zonesNumber.cls ≠ "java/lang/invoke/VarHandle" ∧ (parseMethodDescriptor yX0_zonesNumber.desc).map (fun d => d.parameters.length) = some 3 := by decide +kernel
set_option maxHeartbeats 4000000 in
set_option maxRecDepth 100000 in
theorem c_X0_zonesNumber (l : Launch) (G : BGT) (q_b q_bA q_bB q_bZ q_bG q_bP q_bQ : Nat) (bC : Int32) (bM : Int32) (bL : Int32) (bD : Int32) (bZ : Nat → Int32) (x1 : Int32) (x2 : Int32) (x3 : Int32) : RO l yX0_zonesNumber wsX0_zonesNumber 1 G [oX0 q_b q_bA q_bB q_bZ q_bG q_bP q_bQ bC bM bL bD, aI G q_bZ 45 bZ] [.ref q_b, .int x1, .int x2, .int x3] (some (.int (f_X0_zonesNumber x1 x2 x3 bZ))) := by
  refine RO.ofW (cc := cX0_zonesNumber) (maxL := 4) (ret := (some .int)) (C := RX0) (by decide) rfl rfl (Nat.le_of_ble_eq_true rfl) ?_
  intro p e s m args below meth c Q ls hx hb hml hts hown hP hB hl fi fl fv
  have hS : va_S (fun _ => False) s.heap s.heap [] := va_S.rf
  have hl : lv_has ls 4 [(0, .ref q_b), (1, .int x1), (2, .int x2), (3, .int x3)] := hl
  have t_0 := hts (.fieldLink RX0 18 "ParcelSplit$Book" "zones" "[I") (by decide +kernel)
  have m_0 : Cond.initialized RX6 ∈ wsX0_zonesNumber := by decide +kernel
  have m_1 : Cond.static yX6_at ∈ wsX0_zonesNumber := by decide +kernel
  have i_X0 : ∀ w ∈ wsX00, w ∈ wsX0_zonesNumber := by decide +kernel
  refine lv_aload_n hx hb dX0_zonesNumber_0 rfl (lv_at hl 0 rfl) ?_
  refine va_get (D := gD G) (ci := 0) (v := .ref q_bZ) (C := RX0) (T := TX0) (N := 10) hx hb hts i_X0 hown hB.1 hP 0 rfl rfl 2 (by decide) t_0 (fun _ h9 => h9) rfl dX0_zonesNumber_1 ?_
  refine lv_iload_n hx hb dX0_zonesNumber_4 rfl (lv_at hl 1 rfl) ?_
  refine lv_iload_n hx hb dX0_zonesNumber_5 rfl (lv_at hl 2 rfl) ?_
  refine ro_S (As := [.int x1, .int x2]) (rest := [.ref q_bZ]) (c_X0_zonesStart l G x1 x2) [] rfl gX0_zonesNumber_X0_zonesStart ⟨_, rfl⟩ hd_X0_zonesStart dX0_zonesNumber_6 rfl rfl (Nat.le_of_ble_eq_true rfl) ⟨Nat.le_of_ble_eq_true rfl, Nat.le_of_ble_eq_true rfl⟩ ⟨Nat.le_refl 0, Nat.le_refl 0⟩ hx hb hml hown hts hB hS hP hl.1 ?_
  refine W.eq (g2 := F0 m 9 ls [.int (f_X0_zonesStart x1 x2), .ref q_bZ]) rfl ?_
  refine lv_iload_n hx hb dX0_zonesNumber_9 rfl (lv_at hl 3 rfl) ?_
  refine lv_iadd hx hb dX0_zonesNumber_10 ?_
  refine ro_SN (As := [.ref q_bZ, .int ((f_X0_zonesStart x1 x2) + x3)]) (rest := []) (c_X6_at l G 45 (by decide) q_bZ bZ ((f_X0_zonesStart x1 x2) + x3)) [1] rfl gX0_zonesNumber_X6_at_n87 ⟨_, rfl⟩ hd_X6_at 4 rfl m_0 m_1 dX0_zonesNumber_11 rfl rfl (Nat.le_of_ble_eq_true rfl) ⟨Nat.le_of_ble_eq_true rfl, Nat.le_of_ble_eq_true rfl⟩ ⟨Nat.le_refl 0, Nat.le_refl 0⟩ hx hb hml hown hts hB hS hP hl.1 ?_
  refine W.eq (g2 := F0 m 14 ls [.int (f_X6_at ((f_X0_zonesStart x1 x2) + x3) bZ 45)]) rfl ?_
  exact fi 14 _ (f_X6_at ((f_X0_zonesStart x1 x2) + x3) bZ 45) .int rfl rfl dX0_zonesNumber_14 (by rw [f_X0_zonesNumber])

noncomputable def f_X0_goodNumber (x1 : Int32) (x2 : Int32) (bG : Nat → Int32) : Int32 := (f_X6_at ((x1 * 3) + x2) bG 24)
theorem hd_X0_goodNumber : yX0_goodNumber.cls ≠ "java/lang/invoke/MethodHandle" ∧ yX0_goodNumber.cls ≠ "java/lang/invoke/VarHandle" ∧ (parseMethodDescriptor yX0_goodNumber.desc).map (fun d => d.parameters.length) = some 2 := by decide +kernel
set_option maxHeartbeats 4000000 in
set_option maxRecDepth 100000 in
theorem c_X0_goodNumber (l : Launch) (G : BGT) (q_b q_bA q_bB q_bZ q_bG q_bP q_bQ : Nat) (bC : Int32) (bM : Int32) (bL : Int32) (bD : Int32) (bG : Nat → Int32) (x1 : Int32) (x2 : Int32) : RO l yX0_goodNumber wsX0_goodNumber 1 G [oX0 q_b q_bA q_bB q_bZ q_bG q_bP q_bQ bC bM bL bD, aI G q_bG 24 bG] [.ref q_b, .int x1, .int x2] (some (.int (f_X0_goodNumber x1 x2 bG))) := by
  refine RO.ofW (cc := cX0_goodNumber) (maxL := 3) (ret := (some .int)) (C := RX0) (by decide) rfl rfl (Nat.le_of_ble_eq_true rfl) ?_
  intro p e s m args below meth c Q ls hx hb hml hts hown hP hB hl fi fl fv
  have hS : va_S (fun _ => False) s.heap s.heap [] := va_S.rf
  have hl : lv_has ls 3 [(0, .ref q_b), (1, .int x1), (2, .int x2)] := hl
  have t_0 := hts (.fieldLink RX0 21 "ParcelSplit$Book" "goods" "[I") (by decide +kernel)
  have m_0 : Cond.initialized RX6 ∈ wsX0_goodNumber := by decide +kernel
  have m_1 : Cond.static yX6_at ∈ wsX0_goodNumber := by decide +kernel
  have i_X0 : ∀ w ∈ wsX00, w ∈ wsX0_goodNumber := by decide +kernel
  refine lv_aload_n hx hb dX0_goodNumber_0 rfl (lv_at hl 0 rfl) ?_
  refine va_get (D := gD G) (ci := 0) (v := .ref q_bG) (C := RX0) (T := TX0) (N := 10) hx hb hts i_X0 hown hB.1 hP 0 rfl rfl 3 (by decide) t_0 (fun _ h9 => h9) rfl dX0_goodNumber_1 ?_
  refine lv_iload_n hx hb dX0_goodNumber_4 rfl (lv_at hl 1 rfl) ?_
  refine lv_iconst (v := 3) hx hb dX0_goodNumber_5 (by decide) ?_
  refine lv_imul hx hb dX0_goodNumber_6 ?_
  refine lv_iload_n hx hb dX0_goodNumber_7 rfl (lv_at hl 2 rfl) ?_
  refine lv_iadd hx hb dX0_goodNumber_8 ?_
  refine ro_SN (As := [.ref q_bG, .int ((x1 * 3) + x2)]) (rest := []) (c_X6_at l G 24 (by decide) q_bG bG ((x1 * 3) + x2)) [1] rfl gX0_goodNumber_X6_at_n87 ⟨_, rfl⟩ hd_X6_at 4 rfl m_0 m_1 dX0_goodNumber_9 rfl rfl (Nat.le_of_ble_eq_true rfl) ⟨Nat.le_of_ble_eq_true rfl, Nat.le_of_ble_eq_true rfl⟩ ⟨Nat.le_refl 0, Nat.le_refl 0⟩ hx hb hml hown hts hB hS hP hl.1 ?_
  refine W.eq (g2 := F0 m 12 ls [.int (f_X6_at ((x1 * 3) + x2) bG 24)]) rfl ?_
  exact fi 12 _ (f_X6_at ((x1 * 3) + x2) bG 24) .int rfl rfl dX0_goodNumber_12 (by rw [f_X0_goodNumber])

noncomputable def f_X0_hasCarrier (x1 : Int32) (bC : Int32) : Int32 := (if x1 < 0 then 0 else (if bC ≤ x1 then 0 else 1))
theorem hd_X0_hasCarrier : yX0_hasCarrier.cls ≠ "java/lang/invoke/MethodHandle" ∧ yX0_hasCarrier.cls ≠ "java/lang/invoke/VarHandle" ∧ (parseMethodDescriptor yX0_hasCarrier.desc).map (fun d => d.parameters.length) = some 1 := by decide +kernel
set_option maxHeartbeats 4000000 in
set_option maxRecDepth 100000 in
theorem c_X0_hasCarrier (l : Launch) (G : BGT) (q_b q_bA q_bB q_bZ q_bG q_bP q_bQ : Nat) (bC : Int32) (bM : Int32) (bL : Int32) (bD : Int32) (x1 : Int32) : RO l yX0_hasCarrier wsX0_hasCarrier 0 G [oX0 q_b q_bA q_bB q_bZ q_bG q_bP q_bQ bC bM bL bD] [.ref q_b, .int x1] (some (.int (f_X0_hasCarrier x1 bC))) := by
  refine RO.ofW (cc := cX0_hasCarrier) (maxL := 2) (ret := (some .boolean)) (C := RX0) (by decide) rfl rfl (Nat.le_of_ble_eq_true rfl) ?_
  intro p e s m args below meth c Q ls hx hb hml hts hown hP hB hl fi fl fv
  have hS : va_S (fun _ => False) s.heap s.heap [] := va_S.rf
  have hl : lv_has ls 2 [(0, .ref q_b), (1, .int x1)] := hl
  have t_0 := hts (.fieldLink RX0 36 "ParcelSplit$Book" "carrierCount" "I") (by decide +kernel)
  have i_X0 : ∀ w ∈ wsX00, w ∈ wsX0_hasCarrier := by decide +kernel
  refine lv_iload_n hx hb dX0_hasCarrier_0 rfl (lv_at hl 1 rfl) ?_
  refine lv_if_lt (tgt := 16) hx hb dX0_hasCarrier_1 (by decide) (fun c_1 => ?_) (fun c_1 => ?_)
  · refine lv_iconst (v := 0) hx hb dX0_hasCarrier_16 (by decide) ?_
    exact fi 17 _ 0 .boolean rfl rfl dX0_hasCarrier_17 (by rw [f_X0_hasCarrier, if_pos c_1])
  · refine lv_iload_n hx hb dX0_hasCarrier_4 rfl (lv_at hl 1 rfl) ?_
    refine lv_aload_n hx hb dX0_hasCarrier_5 rfl (lv_at hl 0 rfl) ?_
    refine va_get (D := gD G) (ci := 0) (v := .int bC) (C := RX0) (T := TX0) (N := 10) hx hb hts i_X0 hown hB.1 hP 0 rfl rfl 6 (by decide) t_0 (fun _ h9 => h9) rfl dX0_hasCarrier_6 ?_
    refine lv_icmp_ge (tgt := 16) hx hb dX0_hasCarrier_9 (by decide) (fun c_2 => ?_) (fun c_2 => ?_)
    · refine lv_iconst (v := 0) hx hb dX0_hasCarrier_16 (by decide) ?_
      exact fi 17 _ 0 .boolean rfl rfl dX0_hasCarrier_17 (by rw [f_X0_hasCarrier, if_neg c_1, if_pos c_2])
    · refine lv_iconst (v := 1) hx hb dX0_hasCarrier_12 (by decide) ?_
      refine lv_goto (tgt := 17) hx hb dX0_hasCarrier_13 (by decide) ?_
      exact fi 17 _ 1 .boolean rfl rfl dX0_hasCarrier_17 (by rw [f_X0_hasCarrier, if_neg c_1, if_neg c_2])

noncomputable def f_X0_hasGood (x1 : Int32) (bM : Int32) : Int32 := (if x1 < 0 then 0 else (if bM ≤ x1 then 0 else 1))
theorem hd_X0_hasGood : yX0_hasGood.cls ≠ "java/lang/invoke/MethodHandle" ∧ yX0_hasGood.cls ≠ "java/lang/invoke/VarHandle" ∧ (parseMethodDescriptor yX0_hasGood.desc).map (fun d => d.parameters.length) = some 1 := by decide +kernel
set_option maxHeartbeats 4000000 in
set_option maxRecDepth 100000 in
theorem c_X0_hasGood (l : Launch) (G : BGT) (q_b q_bA q_bB q_bZ q_bG q_bP q_bQ : Nat) (bC : Int32) (bM : Int32) (bL : Int32) (bD : Int32) (x1 : Int32) : RO l yX0_hasGood wsX0_hasGood 0 G [oX0 q_b q_bA q_bB q_bZ q_bG q_bP q_bQ bC bM bL bD] [.ref q_b, .int x1] (some (.int (f_X0_hasGood x1 bM))) := by
  refine RO.ofW (cc := cX0_hasGood) (maxL := 2) (ret := (some .boolean)) (C := RX0) (by decide) rfl rfl (Nat.le_of_ble_eq_true rfl) ?_
  intro p e s m args below meth c Q ls hx hb hml hts hown hP hB hl fi fl fv
  have hS : va_S (fun _ => False) s.heap s.heap [] := va_S.rf
  have hl : lv_has ls 2 [(0, .ref q_b), (1, .int x1)] := hl
  have t_0 := hts (.fieldLink RX0 40 "ParcelSplit$Book" "goodCount" "I") (by decide +kernel)
  have i_X0 : ∀ w ∈ wsX00, w ∈ wsX0_hasGood := by decide +kernel
  refine lv_iload_n hx hb dX0_hasGood_0 rfl (lv_at hl 1 rfl) ?_
  refine lv_if_lt (tgt := 16) hx hb dX0_hasGood_1 (by decide) (fun c_1 => ?_) (fun c_1 => ?_)
  · refine lv_iconst (v := 0) hx hb dX0_hasGood_16 (by decide) ?_
    exact fi 17 _ 0 .boolean rfl rfl dX0_hasGood_17 (by rw [f_X0_hasGood, if_pos c_1])
  · refine lv_iload_n hx hb dX0_hasGood_4 rfl (lv_at hl 1 rfl) ?_
    refine lv_aload_n hx hb dX0_hasGood_5 rfl (lv_at hl 0 rfl) ?_
    refine va_get (D := gD G) (ci := 0) (v := .int bM) (C := RX0) (T := TX0) (N := 10) hx hb hts i_X0 hown hB.1 hP 0 rfl rfl 7 (by decide) t_0 (fun _ h9 => h9) rfl dX0_hasGood_6 ?_
    refine lv_icmp_ge (tgt := 16) hx hb dX0_hasGood_9 (by decide) (fun c_2 => ?_) (fun c_2 => ?_)
    · refine lv_iconst (v := 0) hx hb dX0_hasGood_16 (by decide) ?_
      exact fi 17 _ 0 .boolean rfl rfl dX0_hasGood_17 (by rw [f_X0_hasGood, if_neg c_1, if_pos c_2])
    · refine lv_iconst (v := 1) hx hb dX0_hasGood_12 (by decide) ?_
      refine lv_goto (tgt := 17) hx hb dX0_hasGood_13 (by decide) ?_
      exact fi 17 _ 1 .boolean rfl rfl dX0_hasGood_17 (by rw [f_X0_hasGood, if_neg c_1, if_neg c_2])

noncomputable def f_X0_fullSet (bM : Int32) : Int32 := ((1 <<< (bM &&& 31)) - 1)
theorem hd_X0_fullSet : yX0_fullSet.cls ≠ "java/lang/invoke/MethodHandle" ∧ yX0_fullSet.cls ≠ "java/lang/invoke/VarHandle" ∧ (parseMethodDescriptor yX0_fullSet.desc).map (fun d => d.parameters.length) = some 0 := by decide +kernel
set_option maxHeartbeats 4000000 in
set_option maxRecDepth 100000 in
theorem c_X0_fullSet (l : Launch) (G : BGT) (q_b q_bA q_bB q_bZ q_bG q_bP q_bQ : Nat) (bC : Int32) (bM : Int32) (bL : Int32) (bD : Int32) : RO l yX0_fullSet wsX0_fullSet 0 G [oX0 q_b q_bA q_bB q_bZ q_bG q_bP q_bQ bC bM bL bD] [.ref q_b] (some (.int (f_X0_fullSet bM))) := by
  refine RO.ofW (cc := cX0_fullSet) (maxL := 1) (ret := (some .int)) (C := RX0) (by decide) rfl rfl (Nat.le_of_ble_eq_true rfl) ?_
  intro p e s m args below meth c Q ls hx hb hml hts hown hP hB hl fi fl fv
  have hS : va_S (fun _ => False) s.heap s.heap [] := va_S.rf
  have hl : lv_has ls 1 [(0, .ref q_b)] := hl
  have t_0 := hts (.fieldLink RX0 40 "ParcelSplit$Book" "goodCount" "I") (by decide +kernel)
  have i_X0 : ∀ w ∈ wsX00, w ∈ wsX0_fullSet := by decide +kernel
  refine lv_iconst (v := 1) hx hb dX0_fullSet_0 (by decide) ?_
  refine lv_aload_n hx hb dX0_fullSet_1 rfl (lv_at hl 0 rfl) ?_
  refine va_get (D := gD G) (ci := 0) (v := .int bM) (C := RX0) (T := TX0) (N := 10) hx hb hts i_X0 hown hB.1 hP 0 rfl rfl 7 (by decide) t_0 (fun _ h9 => h9) rfl dX0_fullSet_2 ?_
  refine lv_ishl hx hb dX0_fullSet_5 ?_
  refine lv_iconst (v := 1) hx hb dX0_fullSet_6 (by decide) ?_
  refine lv_isub hx hb dX0_fullSet_7 ?_
  exact fi 8 _ ((1 <<< (bM &&& 31)) - 1) .int rfl rfl dX0_fullSet_8 (by rw [f_X0_fullSet])

noncomputable def f_X0_hasSet (x1 : Int32) (bM : Int32) : Int32 := (if x1 < 1 then 0 else (if (f_X0_fullSet bM) < x1 then 0 else 1))
theorem hd_X0_hasSet : yX0_hasSet.cls ≠ "java/lang/invoke/MethodHandle" ∧ yX0_hasSet.cls ≠ "java/lang/invoke/VarHandle" ∧ (parseMethodDescriptor yX0_hasSet.desc).map (fun d => d.parameters.length) = some 1 := by decide +kernel
set_option maxHeartbeats 4000000 in
set_option maxRecDepth 100000 in
theorem c_X0_hasSet (l : Launch) (G : BGT) (q_b q_bA q_bB q_bZ q_bG q_bP q_bQ : Nat) (bC : Int32) (bM : Int32) (bL : Int32) (bD : Int32) (x1 : Int32) : RO l yX0_hasSet wsX0_hasSet 1 G [oX0 q_b q_bA q_bB q_bZ q_bG q_bP q_bQ bC bM bL bD] [.ref q_b, .int x1] (some (.int (f_X0_hasSet x1 bM))) := by
  refine RO.ofW (cc := cX0_hasSet) (maxL := 2) (ret := (some .boolean)) (C := RX0) (by decide) rfl rfl (Nat.le_of_ble_eq_true rfl) ?_
  intro p e s m args below meth c Q ls hx hb hml hts hown hP hB hl fi fl fv
  have hS : va_S (fun _ => False) s.heap s.heap [] := va_S.rf
  have hl : lv_has ls 2 [(0, .ref q_b), (1, .int x1)] := hl
  refine lv_iload_n hx hb dX0_hasSet_0 rfl (lv_at hl 1 rfl) ?_
  refine lv_iconst (v := 1) hx hb dX0_hasSet_1 (by decide) ?_
  refine lv_icmp_lt (tgt := 17) hx hb dX0_hasSet_2 (by decide) (fun c_1 => ?_) (fun c_1 => ?_)
  · refine lv_iconst (v := 0) hx hb dX0_hasSet_17 (by decide) ?_
    exact fi 18 _ 0 .boolean rfl rfl dX0_hasSet_18 (by rw [f_X0_hasSet, if_pos c_1])
  · refine lv_iload_n hx hb dX0_hasSet_5 rfl (lv_at hl 1 rfl) ?_
    refine lv_aload_n hx hb dX0_hasSet_6 rfl (lv_at hl 0 rfl) ?_
    refine ro_V (ci := 0) (q0 := 0) (As := []) (rest := [.int x1]) (c_X0_fullSet l G q_b q_bA q_bB q_bZ q_bG q_bP q_bQ bC bM bL bD) [0] rfl rfl rfl rfl gX0_hasSet_X0_fullSet ⟨_, rfl⟩ hd_X0_fullSet rfl dX0_hasSet_7 rfl rfl (Nat.le_of_ble_eq_true rfl) ⟨Nat.le_of_ble_eq_true rfl, Nat.le_of_ble_eq_true rfl⟩ ⟨Nat.le_refl 0, Nat.le_refl 0⟩ hx hb hml hown hts hB hS hP hl.1 ?_
    refine W.eq (g2 := F0 m 10 ls [.int (f_X0_fullSet bM), .int x1]) rfl ?_
    refine lv_icmp_gt (tgt := 17) hx hb dX0_hasSet_10 (by decide) (fun c_2 => ?_) (fun c_2 => ?_)
    · refine lv_iconst (v := 0) hx hb dX0_hasSet_17 (by decide) ?_
      exact fi 18 _ 0 .boolean rfl rfl dX0_hasSet_18 (by rw [f_X0_hasSet, if_neg c_1, if_pos c_2])
    · refine lv_iconst (v := 1) hx hb dX0_hasSet_13 (by decide) ?_
      refine lv_goto (tgt := 18) hx hb dX0_hasSet_14 (by decide) ?_
      exact fi 18 _ 1 .boolean rfl rfl dX0_hasSet_18 (by rw [f_X0_hasSet, if_neg c_1, if_neg c_2])

noncomputable def f_X0_isFull (x1 : Int32) (bP : Nat → Int32) (bQ : Nat → Int32) (bC : Int32) (bM : Int32) : Int32 := (if x1 = 0 then (if bC < 3 then 0 else 1) else (if x1 = 1 then (if (f_X0_breakCount (bC - 1) bP) < 5 then 0 else 1) else (if x1 = 2 then (if (f_X0_zonesCount (bC - 1) bQ) < 3 then 0 else 1) else (if x1 = 3 then (if bM < 8 then 0 else 1) else 0))))
theorem hd_X0_isFull : yX0_isFull.cls ≠ "java/lang/invoke/MethodHandle" ∧ yX0_isFull.cls ≠ "java/lang/invoke/VarHandle" ∧ (parseMethodDescriptor yX0_isFull.desc).map (fun d => d.parameters.length) = some 1 := by decide +kernel
set_option maxHeartbeats 4000000 in
set_option maxRecDepth 100000 in
theorem c_X0_isFull (l : Launch) (G : BGT) (q_b q_bA q_bB q_bZ q_bG q_bP q_bQ : Nat) (bC : Int32) (bM : Int32) (bL : Int32) (bD : Int32) (bP : Nat → Int32) (bQ : Nat → Int32) (x1 : Int32) : RO l yX0_isFull wsX0_isFull 2 G [oX0 q_b q_bA q_bB q_bZ q_bG q_bP q_bQ bC bM bL bD, aI G q_bP 3 bP, aI G q_bQ 3 bQ] [.ref q_b, .int x1] (some (.int (f_X0_isFull x1 bP bQ bC bM))) := by
  refine RO.ofW (cc := cX0_isFull) (maxL := 2) (ret := (some .boolean)) (C := RX0) (by decide) rfl rfl (Nat.le_of_ble_eq_true rfl) ?_
  intro p e s m args below meth c Q ls hx hb hml hts hown hP hB hl fi fl fv
  have hS : va_S (fun _ => False) s.heap s.heap [] := va_S.rf
  have hl : lv_has ls 2 [(0, .ref q_b), (1, .int x1)] := hl
  have t_0 := hts (.fieldLink RX0 36 "ParcelSplit$Book" "carrierCount" "I") (by decide +kernel)
  have t_1 := hts (.fieldLink RX0 40 "ParcelSplit$Book" "goodCount" "I") (by decide +kernel)
  have i_X0 : ∀ w ∈ wsX00, w ∈ wsX0_isFull := by decide +kernel
  refine lv_iload_n hx hb dX0_isFull_0 rfl (lv_at hl 1 rfl) ?_
  by_cases c_1 : x1 = 0
  · refine lv_tableIn (tgt := 32) (off := 31) hx hb dX0_isFull_1 (by rw [c_1]; decide) (by rw [c_1]; decide) (by rw [c_1]; rfl) (by decide) ?_
    refine lv_aload_n hx hb dX0_isFull_32 rfl (lv_at hl 0 rfl) ?_
    refine va_get (D := gD G) (ci := 0) (v := .int bC) (C := RX0) (T := TX0) (N := 10) hx hb hts i_X0 hown hB.1 hP 0 rfl rfl 6 (by decide) t_0 (fun _ h9 => h9) rfl dX0_isFull_33 ?_
    refine lv_iconst (v := 3) hx hb dX0_isFull_36 (by decide) ?_
    refine lv_icmp_lt (tgt := 44) hx hb dX0_isFull_37 (by decide) (fun c_2 => ?_) (fun c_2 => ?_)
    · refine lv_iconst (v := 0) hx hb dX0_isFull_44 (by decide) ?_
      exact fi 45 _ 0 .boolean rfl rfl dX0_isFull_45 (by rw [f_X0_isFull, if_pos c_1, if_pos c_2])
    · refine lv_iconst (v := 1) hx hb dX0_isFull_40 (by decide) ?_
      refine lv_goto (tgt := 45) hx hb dX0_isFull_41 (by decide) ?_
      exact fi 45 _ 1 .boolean rfl rfl dX0_isFull_45 (by rw [f_X0_isFull, if_pos c_1, if_neg c_2])
  · by_cases c_3 : x1 = 1
    · refine lv_tableIn (tgt := 46) (off := 45) hx hb dX0_isFull_1 (by rw [c_3]; decide) (by rw [c_3]; decide) (by rw [c_3]; rfl) (by decide) ?_
      refine lv_aload_n hx hb dX0_isFull_46 rfl (lv_at hl 0 rfl) ?_
      refine lv_aload_n hx hb dX0_isFull_47 rfl (lv_at hl 0 rfl) ?_
      refine va_get (D := gD G) (ci := 0) (v := .int bC) (C := RX0) (T := TX0) (N := 10) hx hb hts i_X0 hown hB.1 hP 0 rfl rfl 6 (by decide) t_0 (fun _ h9 => h9) rfl dX0_isFull_48 ?_
      refine lv_iconst (v := 1) hx hb dX0_isFull_51 (by decide) ?_
      refine lv_isub hx hb dX0_isFull_52 ?_
      refine ro_V (ci := 0) (q0 := 0) (As := [.int (bC - 1)]) (rest := []) (c_X0_breakCount l G q_b q_bA q_bB q_bZ q_bG q_bP q_bQ bC bM bL bD bP (bC - 1)) [0, 1] rfl rfl rfl rfl gX0_isFull_X0_breakCount ⟨_, rfl⟩ hd_X0_breakCount rfl dX0_isFull_53 rfl rfl (Nat.le_of_ble_eq_true rfl) ⟨Nat.le_of_ble_eq_true rfl, Nat.le_of_ble_eq_true rfl⟩ ⟨Nat.le_refl 0, Nat.le_refl 0⟩ hx hb hml hown hts hB hS hP hl.1 ?_
      refine W.eq (g2 := F0 m 56 ls [.int (f_X0_breakCount (bC - 1) bP)]) rfl ?_
      refine lv_iconst (v := 5) hx hb dX0_isFull_56 (by decide) ?_
      refine lv_icmp_lt (tgt := 64) hx hb dX0_isFull_57 (by decide) (fun c_4 => ?_) (fun c_4 => ?_)
      · refine lv_iconst (v := 0) hx hb dX0_isFull_64 (by decide) ?_
        exact fi 65 _ 0 .boolean rfl rfl dX0_isFull_65 (by rw [f_X0_isFull, if_neg c_1, if_pos c_3, if_pos c_4])
      · refine lv_iconst (v := 1) hx hb dX0_isFull_60 (by decide) ?_
        refine lv_goto (tgt := 65) hx hb dX0_isFull_61 (by decide) ?_
        exact fi 65 _ 1 .boolean rfl rfl dX0_isFull_65 (by rw [f_X0_isFull, if_neg c_1, if_pos c_3, if_neg c_4])
    · by_cases c_5 : x1 = 2
      · refine lv_tableIn (tgt := 66) (off := 65) hx hb dX0_isFull_1 (by rw [c_5]; decide) (by rw [c_5]; decide) (by rw [c_5]; rfl) (by decide) ?_
        refine lv_aload_n hx hb dX0_isFull_66 rfl (lv_at hl 0 rfl) ?_
        refine lv_aload_n hx hb dX0_isFull_67 rfl (lv_at hl 0 rfl) ?_
        refine va_get (D := gD G) (ci := 0) (v := .int bC) (C := RX0) (T := TX0) (N := 10) hx hb hts i_X0 hown hB.1 hP 0 rfl rfl 6 (by decide) t_0 (fun _ h9 => h9) rfl dX0_isFull_68 ?_
        refine lv_iconst (v := 1) hx hb dX0_isFull_71 (by decide) ?_
        refine lv_isub hx hb dX0_isFull_72 ?_
        refine ro_V (ci := 0) (q0 := 0) (As := [.int (bC - 1)]) (rest := []) (c_X0_zonesCount l G q_b q_bA q_bB q_bZ q_bG q_bP q_bQ bC bM bL bD bQ (bC - 1)) [0, 2] rfl rfl rfl rfl gX0_isFull_X0_zonesCount ⟨_, rfl⟩ hd_X0_zonesCount rfl dX0_isFull_73 rfl rfl (Nat.le_of_ble_eq_true rfl) ⟨Nat.le_of_ble_eq_true rfl, Nat.le_of_ble_eq_true rfl⟩ ⟨Nat.le_refl 0, Nat.le_refl 0⟩ hx hb hml hown hts hB hS hP hl.1 ?_
        refine W.eq (g2 := F0 m 76 ls [.int (f_X0_zonesCount (bC - 1) bQ)]) rfl ?_
        refine lv_iconst (v := 3) hx hb dX0_isFull_76 (by decide) ?_
        refine lv_icmp_lt (tgt := 84) hx hb dX0_isFull_77 (by decide) (fun c_6 => ?_) (fun c_6 => ?_)
        · refine lv_iconst (v := 0) hx hb dX0_isFull_84 (by decide) ?_
          exact fi 85 _ 0 .boolean rfl rfl dX0_isFull_85 (by rw [f_X0_isFull, if_neg c_1, if_neg c_3, if_pos c_5, if_pos c_6])
        · refine lv_iconst (v := 1) hx hb dX0_isFull_80 (by decide) ?_
          refine lv_goto (tgt := 85) hx hb dX0_isFull_81 (by decide) ?_
          exact fi 85 _ 1 .boolean rfl rfl dX0_isFull_85 (by rw [f_X0_isFull, if_neg c_1, if_neg c_3, if_pos c_5, if_neg c_6])
      · by_cases c_7 : x1 = 3
        · refine lv_tableIn (tgt := 86) (off := 85) hx hb dX0_isFull_1 (by rw [c_7]; decide) (by rw [c_7]; decide) (by rw [c_7]; rfl) (by decide) ?_
          refine lv_aload_n hx hb dX0_isFull_86 rfl (lv_at hl 0 rfl) ?_
          refine va_get (D := gD G) (ci := 0) (v := .int bM) (C := RX0) (T := TX0) (N := 10) hx hb hts i_X0 hown hB.1 hP 0 rfl rfl 7 (by decide) t_1 (fun _ h9 => h9) rfl dX0_isFull_87 ?_
          refine lv_bipush (v := 8) hx hb dX0_isFull_90 (by decide) ?_
          refine lv_icmp_lt (tgt := 99) hx hb dX0_isFull_92 (by decide) (fun c_8 => ?_) (fun c_8 => ?_)
          · refine lv_iconst (v := 0) hx hb dX0_isFull_99 (by decide) ?_
            exact fi 100 _ 0 .boolean rfl rfl dX0_isFull_100 (by rw [f_X0_isFull, if_neg c_1, if_neg c_3, if_neg c_5, if_pos c_7, if_pos c_8])
          · refine lv_iconst (v := 1) hx hb dX0_isFull_95 (by decide) ?_
            refine lv_goto (tgt := 100) hx hb dX0_isFull_96 (by decide) ?_
            exact fi 100 _ 1 .boolean rfl rfl dX0_isFull_100 (by rw [f_X0_isFull, if_neg c_1, if_neg c_3, if_neg c_5, if_pos c_7, if_neg c_8])
        · refine lv_tableOut (tgt := 101) hx hb dX0_isFull_1 (sw_out 0 3 (fun k h1 h2 => by have h3 : k = 0 ∨ k = 1 ∨ k = 2 ∨ k = 3 := (by omega); rcases h3 with rfl | rfl | rfl | rfl; exact c_1; exact c_3; exact c_5; exact c_7)) (by decide) ?_
          refine lv_iconst (v := 0) hx hb dX0_isFull_101 (by decide) ?_
          exact fi 102 _ 0 .boolean rfl rfl dX0_isFull_102 (by rw [f_X0_isFull, if_neg c_1, if_neg c_3, if_neg c_5, if_neg c_7])

noncomputable def f_X0_clear (bP : Nat → Int32) (bQ : Nat → Int32) : (Nat → Int32) × (Nat → Int32) × Int32 × Int32 × Int32 × Int32 := (f_J7_fill_53178 0 bP 3, f_J7_fill_53178 0 bQ 3, 0, 0, 0, 0)
noncomputable def k_X0_clear (bP : Nat → Int32) (bQ : Nat → Int32) : Prop := (k_J7_fill_53178 0 bP 3 ∧ (k_J7_fill_53178 0 bQ 3 ∧ True))
theorem hd_X0_clear : yX0_clear.cls ≠ "java/lang/invoke/MethodHandle" ∧ yX0_clear.cls ≠ "java/lang/invoke/VarHandle" ∧ (parseMethodDescriptor yX0_clear.desc).map (fun d => d.parameters.length) = some 0 := by decide +kernel
set_option maxHeartbeats 4000000 in
set_option maxRecDepth 100000 in
theorem c_X0_clear (l : Launch) (G : BGT) (q_b q_bA q_bB q_bZ q_bG q_bP q_bQ : Nat) (bC : Int32) (bM : Int32) (bL : Int32) (bD : Int32) (bP : Nat → Int32) (bQ : Nat → Int32) (hk : k_X0_clear bP bQ) : WR l yX0_clear wsX0_clear 1 G [oX0 q_b q_bA q_bB q_bZ q_bG q_bP q_bQ bC bM bL bD, aI G q_bP 3 bP, aI G q_bQ 3 bQ] [oX0 q_b q_bA q_bB q_bZ q_bG q_bP q_bQ ((f_X0_clear bP bQ).2.2.1) ((f_X0_clear bP bQ).2.2.2.1) ((f_X0_clear bP bQ).2.2.2.2.1) ((f_X0_clear bP bQ).2.2.2.2.2), aI G q_bP 3 ((f_X0_clear bP bQ).1), aI G q_bQ 3 ((f_X0_clear bP bQ).2.1)] [.ref q_b] none := by
  refine WR.ofW (cc := cX0_clear) (maxL := 1) (ret := none) (C := RX0) (by decide) rfl rfl (Nat.le_of_ble_eq_true rfl) ?_
  intro p e s m args below meth c Q ls A hx hb hml hts hown hP hD hS hA hB hl fi fv
  have hl : lv_has ls 1 [(0, .ref q_b)] := hl
  have t_0 := hts (.fieldLink RX0 24 "ParcelSplit$Book" "breakCounts" "[I") (by decide +kernel)
  have t_1 := hts (.fieldLink RX0 27 "ParcelSplit$Book" "zonesCounts" "[I") (by decide +kernel)
  have t_2 := hts (.fieldLink RX0 36 "ParcelSplit$Book" "carrierCount" "I") (by decide +kernel)
  have t_3 := hts (.fieldLink RX0 40 "ParcelSplit$Book" "goodCount" "I") (by decide +kernel)
  have t_4 := hts (.fieldLink RX0 43 "ParcelSplit$Book" "place" "I") (by decide +kernel)
  have t_5 := hts (.fieldLink RX0 46 "ParcelSplit$Book" "day" "I") (by decide +kernel)
  have i_X0 : ∀ w ∈ wsX00, w ∈ wsX0_clear := by decide +kernel
  rw [k_X0_clear] at hk
  refine lv_aload_n hx hb dX0_clear_0 rfl (lv_at hl 0 rfl) ?_
  refine va_get (D := gD G) (ci := 0) (v := .ref q_bP) (C := RX0) (T := TX0) (N := 10) hx hb hts i_X0 hown hB.1 hP 0 rfl rfl 4 (by decide) t_0 (fun _ h9 => h9) rfl dX0_clear_1 ?_
  refine lv_iconst (v := 0) hx hb dX0_clear_4 (by decide) ?_
  obtain ⟨o_1, hk⟩ := hk
  refine wr_S (As := [.ref q_bP, .int 0]) (rest := []) (wr := [oX0 q_b q_bA q_bB q_bZ q_bG q_bP q_bQ bC bM bL bD, aI G q_bQ 3 bQ]) (wf := [oX0 q_b q_bA q_bB q_bZ q_bG q_bP q_bQ bC bM bL bD, aI G q_bP 3 (f_J7_fill_53178 0 bP 3), aI G q_bQ 3 bQ]) (c_J7_fill_53178 l G 3 (by decide) q_bP bP 0 o_1) [1] [0, 2] [0, 2, 1] rfl rfl rfl (by decide) gX0_clear_J7_fill_53178 ⟨_, rfl⟩ hd_J7_fill_53178 dX0_clear_5 rfl rfl (Nat.le_of_ble_eq_true rfl) ⟨Nat.le_of_ble_eq_true rfl, Nat.le_of_ble_eq_true rfl⟩ ⟨Nat.le_refl 0, Nat.le_refl 0⟩ hx hb hml hown hts hB hD hS hA hP hl.1 (fun H locs hP hD hS => ?_)
  refine W.eq (g2 := F0 m 8 ls []) rfl ?_
  refine lv_aload_n hx hb dX0_clear_8 rfl (lv_at hl 0 rfl) ?_
  refine va_get (D := gD G) (ci := 0) (v := .ref q_bQ) (C := RX0) (T := TX0) (N := 10) hx hb hts i_X0 hown hB.1 hP 0 rfl rfl 5 (by decide) t_1 (fun _ h9 => h9) rfl dX0_clear_9 ?_
  refine lv_iconst (v := 0) hx hb dX0_clear_12 (by decide) ?_
  obtain ⟨o_2, hk⟩ := hk
  refine wr_S (As := [.ref q_bQ, .int 0]) (rest := []) (wr := [oX0 q_b q_bA q_bB q_bZ q_bG q_bP q_bQ bC bM bL bD, aI G q_bP 3 (f_J7_fill_53178 0 bP 3)]) (wf := [oX0 q_b q_bA q_bB q_bZ q_bG q_bP q_bQ bC bM bL bD, aI G q_bP 3 (f_J7_fill_53178 0 bP 3), aI G q_bQ 3 (f_J7_fill_53178 0 bQ 3)]) (c_J7_fill_53178 l G 3 (by decide) q_bQ bQ 0 o_2) [2] [0, 1] [0, 1, 2] rfl rfl rfl (by decide) gX0_clear_J7_fill_53178 ⟨_, rfl⟩ hd_J7_fill_53178 dX0_clear_13 rfl rfl (Nat.le_of_ble_eq_true rfl) ⟨Nat.le_of_ble_eq_true rfl, Nat.le_of_ble_eq_true rfl⟩ ⟨Nat.le_refl 0, Nat.le_refl 0⟩ hx hb hml hown hts hB hD hS hA hP hl.1 (fun H locs hP hD hS => ?_)
  refine W.eq (g2 := F0 m 16 ls []) rfl ?_
  refine lv_aload_n hx hb dX0_clear_16 rfl (lv_at hl 0 rfl) ?_
  refine lv_iconst (v := 0) hx hb dX0_clear_17 (by decide) ?_
  refine va_put (D := gD G) (ci := 0) (v := .int 0) (ty := .int) (C := RX0) (T := TX0) (N := 10) hx hb hts i_X0 tyX0 tyX0_ok nmX0 hown hB.1 hP hD hS 0 rfl rfl 6 (by decide) t_2 (fun _ h9 => h9) rfl (by decide +kernel) rfl rfl (Nat.le_of_ble_eq_true rfl) dX0_clear_18 (fun H locs hP hD hS => ?_)
  have hP : va_P (gD G) vwCl [oX0 q_b q_bA q_bB q_bZ q_bG q_bP q_bQ 0 bM bL bD, aI G q_bP 3 (f_J7_fill_53178 0 bP 3), aI G q_bQ 3 (f_J7_fill_53178 0 bQ 3)] H := hP
  have hD : va_D A [oX0 q_b q_bA q_bB q_bZ q_bG q_bP q_bQ 0 bM bL bD, aI G q_bP 3 (f_J7_fill_53178 0 bP 3), aI G q_bQ 3 (f_J7_fill_53178 0 bQ 3)] := hD
  refine lv_aload_n hx hb dX0_clear_21 rfl (lv_at hl 0 rfl) ?_
  refine lv_iconst (v := 0) hx hb dX0_clear_22 (by decide) ?_
  refine va_put (D := gD G) (ci := 0) (v := .int 0) (ty := .int) (C := RX0) (T := TX0) (N := 10) hx hb hts i_X0 tyX0 tyX0_ok nmX0 hown hB.1 hP hD hS 0 rfl rfl 7 (by decide) t_3 (fun _ h9 => h9) rfl (by decide +kernel) rfl rfl (Nat.le_of_ble_eq_true rfl) dX0_clear_23 (fun H locs hP hD hS => ?_)
  have hP : va_P (gD G) vwCl [oX0 q_b q_bA q_bB q_bZ q_bG q_bP q_bQ 0 0 bL bD, aI G q_bP 3 (f_J7_fill_53178 0 bP 3), aI G q_bQ 3 (f_J7_fill_53178 0 bQ 3)] H := hP
  have hD : va_D A [oX0 q_b q_bA q_bB q_bZ q_bG q_bP q_bQ 0 0 bL bD, aI G q_bP 3 (f_J7_fill_53178 0 bP 3), aI G q_bQ 3 (f_J7_fill_53178 0 bQ 3)] := hD
  refine lv_aload_n hx hb dX0_clear_26 rfl (lv_at hl 0 rfl) ?_
  refine lv_iconst (v := 0) hx hb dX0_clear_27 (by decide) ?_
  refine va_put (D := gD G) (ci := 0) (v := .int 0) (ty := .int) (C := RX0) (T := TX0) (N := 10) hx hb hts i_X0 tyX0 tyX0_ok nmX0 hown hB.1 hP hD hS 0 rfl rfl 8 (by decide) t_4 (fun _ h9 => h9) rfl (by decide +kernel) rfl rfl (Nat.le_of_ble_eq_true rfl) dX0_clear_28 (fun H locs hP hD hS => ?_)
  have hP : va_P (gD G) vwCl [oX0 q_b q_bA q_bB q_bZ q_bG q_bP q_bQ 0 0 0 bD, aI G q_bP 3 (f_J7_fill_53178 0 bP 3), aI G q_bQ 3 (f_J7_fill_53178 0 bQ 3)] H := hP
  have hD : va_D A [oX0 q_b q_bA q_bB q_bZ q_bG q_bP q_bQ 0 0 0 bD, aI G q_bP 3 (f_J7_fill_53178 0 bP 3), aI G q_bQ 3 (f_J7_fill_53178 0 bQ 3)] := hD
  refine lv_aload_n hx hb dX0_clear_31 rfl (lv_at hl 0 rfl) ?_
  refine lv_iconst (v := 0) hx hb dX0_clear_32 (by decide) ?_
  refine va_put (D := gD G) (ci := 0) (v := .int 0) (ty := .int) (C := RX0) (T := TX0) (N := 10) hx hb hts i_X0 tyX0 tyX0_ok nmX0 hown hB.1 hP hD hS 0 rfl rfl 9 (by decide) t_5 (fun _ h9 => h9) rfl (by decide +kernel) rfl rfl (Nat.le_of_ble_eq_true rfl) dX0_clear_33 (fun H locs hP hD hS => ?_)
  have hP : va_P (gD G) vwCl [oX0 q_b q_bA q_bB q_bZ q_bG q_bP q_bQ 0 0 0 0, aI G q_bP 3 (f_J7_fill_53178 0 bP 3), aI G q_bQ 3 (f_J7_fill_53178 0 bQ 3)] H := hP
  have hD : va_D A [oX0 q_b q_bA q_bB q_bZ q_bG q_bP q_bQ 0 0 0 0, aI G q_bP 3 (f_J7_fill_53178 0 bP 3), aI G q_bQ 3 (f_J7_fill_53178 0 bQ 3)] := hD
  have e9 : f_X0_clear bP bQ = (f_J7_fill_53178 0 bP 3, f_J7_fill_53178 0 bQ 3, 0, 0, 0, 0) := by rw [f_X0_clear]
  exact fv 36 _ _ _ rfl dX0_clear_36 rfl (by rw [e9]; exact hP) (by rw [e9]; exact hD) hS

noncomputable def f_X0_addLine (x1 : Int32) (gg : Nat → Int32) (bA : Nat → Int32) (bB : Nat → Int32) (bZ : Nat → Int32) (bG : Nat → Int32) (bP : Nat → Int32) (bQ : Nat → Int32) (bC : Int32) (bM : Int32) (bL : Int32) (bD : Int32) (n_ : Nat) : (Nat → Int32) × (Nat → Int32) × (Nat → Int32) × (Nat → Int32) × (Nat → Int32) × (Nat → Int32) × Int32 × Int32 × Int32 × Int32 := (if x1 = 0 then (f_X6_copy 0 (bC * 6) 6 gg bA n_ 18, bB, bZ, bG, bP, bQ, (bC + 1), bM, bL, bD) else (if x1 = 1 then (bA, f_X6_copy 0 (f_X0_breakStart (bC - 1) (f_X0_breakCount (bC - 1) bP)) 4 gg bB n_ 60, bZ, bG, f_X6_store (bC - 1) ((f_X0_breakCount (bC - 1) bP) + 1) bP 3, bQ, bC, bM, bL, bD) else (if x1 = 2 then (bA, bB, f_X6_copy 0 (f_X0_zonesStart (bC - 1) (f_X0_zonesCount (bC - 1) bQ)) 5 gg bZ n_ 45, bG, bP, f_X6_store (bC - 1) ((f_X0_zonesCount (bC - 1) bQ) + 1) bQ 3, bC, bM, bL, bD) else (if x1 = 3 then (bA, bB, bZ, f_X6_copy 0 (bM * 3) 3 gg bG n_ 24, bP, bQ, bC, (bM + 1), bL, bD) else (if x1 = 4 then (bA, bB, bZ, bG, bP, bQ, bC, bM, (f_X6_at 0 gg n_), (f_X6_at 1 gg n_)) else (bA, bB, bZ, bG, bP, bQ, bC, bM, bL, bD))))))
noncomputable def k_X0_addLine (x1 : Int32) (gg : Nat → Int32) (bA : Nat → Int32) (bB : Nat → Int32) (bZ : Nat → Int32) (bG : Nat → Int32) (bP : Nat → Int32) (bQ : Nat → Int32) (bC : Int32) (bM : Int32) (n_ : Nat) : Prop := (if x1 = 0 then (k_X6_copy 0 (bC * 6) 6 gg bA n_ 18 ∧ True) else (if x1 = 1 then (k_X6_copy 0 (f_X0_breakStart (bC - 1) (f_X0_breakCount (bC - 1) bP)) 4 gg bB n_ 60 ∧ True) else (if x1 = 2 then (k_X6_copy 0 (f_X0_zonesStart (bC - 1) (f_X0_zonesCount (bC - 1) bQ)) 5 gg bZ n_ 45 ∧ True) else (if x1 = 3 then (k_X6_copy 0 (bM * 3) 3 gg bG n_ 24 ∧ True) else True))))
theorem hd_X0_addLine : yX0_addLine.cls ≠ "java/lang/invoke/MethodHandle" ∧ yX0_addLine.cls ≠ "java/lang/invoke/VarHandle" ∧ (parseMethodDescriptor yX0_addLine.desc).map (fun d => d.parameters.length) = some 2 := by decide +kernel
set_option maxHeartbeats 4000000 in
set_option maxRecDepth 100000 in
theorem c_X0_addLine (l : Launch) (G : BGT) (n_ : Nat) (hn_n_ : n_ < 2 ^ 31) (q_b q_bA q_bB q_bZ q_bG q_bP q_bQ q_gg : Nat) (bC : Int32) (bM : Int32) (bL : Int32) (bD : Int32) (bA : Nat → Int32) (bB : Nat → Int32) (bZ : Nat → Int32) (bG : Nat → Int32) (bP : Nat → Int32) (bQ : Nat → Int32) (gg : Nat → Int32) (x1 : Int32) (hk : k_X0_addLine x1 gg bA bB bZ bG bP bQ bC bM n_) : WR l yX0_addLine wsX0_addLine 2 G [oX0 q_b q_bA q_bB q_bZ q_bG q_bP q_bQ bC bM bL bD, aI G q_bA 18 bA, aI G q_bB 60 bB, aI G q_bZ 45 bZ, aI G q_bG 24 bG, aI G q_bP 3 bP, aI G q_bQ 3 bQ, aI G q_gg n_ gg] [oX0 q_b q_bA q_bB q_bZ q_bG q_bP q_bQ ((f_X0_addLine x1 gg bA bB bZ bG bP bQ bC bM bL bD n_).2.2.2.2.2.2.1) ((f_X0_addLine x1 gg bA bB bZ bG bP bQ bC bM bL bD n_).2.2.2.2.2.2.2.1) ((f_X0_addLine x1 gg bA bB bZ bG bP bQ bC bM bL bD n_).2.2.2.2.2.2.2.2.1) ((f_X0_addLine x1 gg bA bB bZ bG bP bQ bC bM bL bD n_).2.2.2.2.2.2.2.2.2), aI G q_bA 18 ((f_X0_addLine x1 gg bA bB bZ bG bP bQ bC bM bL bD n_).1), aI G q_bB 60 ((f_X0_addLine x1 gg bA bB bZ bG bP bQ bC bM bL bD n_).2.1), aI G q_bZ 45 ((f_X0_addLine x1 gg bA bB bZ bG bP bQ bC bM bL bD n_).2.2.1), aI G q_bG 24 ((f_X0_addLine x1 gg bA bB bZ bG bP bQ bC bM bL bD n_).2.2.2.1), aI G q_bP 3 ((f_X0_addLine x1 gg bA bB bZ bG bP bQ bC bM bL bD n_).2.2.2.2.1), aI G q_bQ 3 ((f_X0_addLine x1 gg bA bB bZ bG bP bQ bC bM bL bD n_).2.2.2.2.2.1), aI G q_gg n_ gg] [.ref q_b, .int x1, .ref q_gg] none := by
  refine WR.ofW (cc := cX0_addLine) (maxL := 4) (ret := none) (C := RX0) (by decide) rfl rfl (Nat.le_of_ble_eq_true rfl) ?_
  intro p e s m args below meth c Q ls A hx hb hml hts hown hP hD hS hA hB hl fi fv
  have hl : lv_has ls 4 [(0, .ref q_b), (1, .int x1), (2, .ref q_gg)] := hl
  have t_0 := hts (.fieldLink RX0 36 "ParcelSplit$Book" "carrierCount" "I") (by decide +kernel)
  have t_1 := hts (.fieldLink RX0 11 "ParcelSplit$Book" "carriers" "[I") (by decide +kernel)
  have t_2 := hts (.fieldLink RX0 15 "ParcelSplit$Book" "breaks" "[I") (by decide +kernel)
  have t_3 := hts (.fieldLink RX0 24 "ParcelSplit$Book" "breakCounts" "[I") (by decide +kernel)
  have t_4 := hts (.fieldLink RX0 18 "ParcelSplit$Book" "zones" "[I") (by decide +kernel)
  have t_5 := hts (.fieldLink RX0 27 "ParcelSplit$Book" "zonesCounts" "[I") (by decide +kernel)
  have t_6 := hts (.fieldLink RX0 21 "ParcelSplit$Book" "goods" "[I") (by decide +kernel)
  have t_7 := hts (.fieldLink RX0 40 "ParcelSplit$Book" "goodCount" "I") (by decide +kernel)
  have t_8 := hts (.fieldLink RX0 43 "ParcelSplit$Book" "place" "I") (by decide +kernel)
  have t_9 := hts (.fieldLink RX0 46 "ParcelSplit$Book" "day" "I") (by decide +kernel)
  have m_0 : Cond.initialized RX6 ∈ wsX0_addLine := by decide +kernel
  have m_1 : Cond.static yX6_copy ∈ wsX0_addLine := by decide +kernel
  have m_2 : Cond.static yX6_store ∈ wsX0_addLine := by decide +kernel
  have m_3 : Cond.static yX6_at ∈ wsX0_addLine := by decide +kernel
  have i_X0 : ∀ w ∈ wsX00, w ∈ wsX0_addLine := by decide +kernel
  rw [k_X0_addLine] at hk
  refine lv_aload_n hx hb dX0_addLine_0 rfl (lv_at hl 0 rfl) ?_
  refine va_get (D := gD G) (ci := 0) (v := .int bC) (C := RX0) (T := TX0) (N := 10) hx hb hts i_X0 hown hB.1 hP 0 rfl rfl 6 (by decide) t_0 (fun _ h9 => h9) rfl dX0_addLine_1 ?_
  refine lv_iconst (v := 1) hx hb dX0_addLine_4 (by decide) ?_
  refine lv_isub hx hb dX0_addLine_5 ?_
  refine lv_istore_n (lv' := [(3, .int (bC - 1)), (0, .ref q_b), (1, .int x1), (2, .ref q_gg)]) hx hb dX0_addLine_6 rfl hl (by decide) rfl (fun ls hl => ?_)
  refine lv_iload_n hx hb dX0_addLine_7 rfl (lv_at hl 2 rfl) ?_
  by_cases c_1 : x1 = 0
  · rw [if_pos c_1] at hk
    refine lv_tableIn (tgt := 44) (off := 36) hx hb dX0_addLine_8 (by rw [c_1]; decide) (by rw [c_1]; decide) (by rw [c_1]; rfl) (by decide) ?_
    refine lv_aload_n hx hb dX0_addLine_44 rfl (lv_at hl 3 rfl) ?_
    refine lv_iconst (v := 0) hx hb dX0_addLine_45 (by decide) ?_
    refine lv_aload_n hx hb dX0_addLine_46 rfl (lv_at hl 1 rfl) ?_
    refine va_get (D := gD G) (ci := 0) (v := .ref q_bA) (C := RX0) (T := TX0) (N := 10) hx hb hts i_X0 hown hB.1 hP 0 rfl rfl 0 (by decide) t_1 (fun _ h9 => h9) rfl dX0_addLine_47 ?_
    refine lv_aload_n hx hb dX0_addLine_50 rfl (lv_at hl 1 rfl) ?_
    refine va_get (D := gD G) (ci := 0) (v := .int bC) (C := RX0) (T := TX0) (N := 10) hx hb hts i_X0 hown hB.1 hP 0 rfl rfl 6 (by decide) t_0 (fun _ h9 => h9) rfl dX0_addLine_51 ?_
    refine lv_bipush (v := 6) hx hb dX0_addLine_54 (by decide) ?_
    refine lv_imul hx hb dX0_addLine_56 ?_
    refine lv_bipush (v := 6) hx hb dX0_addLine_57 (by decide) ?_
    obtain ⟨o_2, hk⟩ := hk
    refine wr_SN (As := [.ref q_gg, .int 0, .ref q_bA, .int (bC * 6), .int 6]) (rest := []) (wr := [oX0 q_b q_bA q_bB q_bZ q_bG q_bP q_bQ bC bM bL bD, aI G q_bB 60 bB, aI G q_bZ 45 bZ, aI G q_bG 24 bG, aI G q_bP 3 bP, aI G q_bQ 3 bQ]) (wf := [oX0 q_b q_bA q_bB q_bZ q_bG q_bP q_bQ bC bM bL bD, aI G q_bA 18 (f_X6_copy 0 (bC * 6) 6 gg bA n_ 18), aI G q_bB 60 bB, aI G q_bZ 45 bZ, aI G q_bG 24 bG, aI G q_bP 3 bP, aI G q_bQ 3 bQ, aI G q_gg n_ gg]) (c_X6_copy l G n_ 18 hn_n_ (by decide) q_gg q_bA gg bA 0 (bC * 6) 6 o_2) [7, 1] [0, 2, 3, 4, 5, 6] [0, 7, 1, 2, 3, 4, 5, 6] rfl rfl rfl (by decide) gX0_addLine_X6_copy_n65 ⟨_, rfl⟩ hd_X6_copy 3 rfl m_0 m_1 dX0_addLine_59 rfl rfl (Nat.le_of_ble_eq_true rfl) ⟨Nat.le_of_ble_eq_true rfl, Nat.le_of_ble_eq_true rfl⟩ ⟨Nat.le_refl 0, Nat.le_refl 0⟩ hx hb hml hown hts hB hD hS hA hP hl.1 (fun H locs hP hD hS => ?_)
    refine W.eq (g2 := F0 m 62 ls []) rfl ?_
    refine lv_aload_n hx hb dX0_addLine_62 rfl (lv_at hl 1 rfl) ?_
    refine lv_dup hx hb dX0_addLine_63 rfl ?_
    refine va_get (D := gD G) (ci := 0) (v := .int bC) (C := RX0) (T := TX0) (N := 10) hx hb hts i_X0 hown hB.1 hP 0 rfl rfl 6 (by decide) t_0 (fun _ h9 => h9) rfl dX0_addLine_64 ?_
    refine lv_iconst (v := 1) hx hb dX0_addLine_67 (by decide) ?_
    refine lv_iadd hx hb dX0_addLine_68 ?_
    refine va_put (D := gD G) (ci := 0) (v := .int (bC + 1)) (ty := .int) (C := RX0) (T := TX0) (N := 10) hx hb hts i_X0 tyX0 tyX0_ok nmX0 hown hB.1 hP hD hS 0 rfl rfl 6 (by decide) t_0 (fun _ h9 => h9) rfl (by decide +kernel) rfl rfl (Nat.le_of_ble_eq_true rfl) dX0_addLine_69 (fun H locs hP hD hS => ?_)
    have hP : va_P (gD G) vwCl [oX0 q_b q_bA q_bB q_bZ q_bG q_bP q_bQ (bC + 1) bM bL bD, aI G q_bA 18 (f_X6_copy 0 (bC * 6) 6 gg bA n_ 18), aI G q_bB 60 bB, aI G q_bZ 45 bZ, aI G q_bG 24 bG, aI G q_bP 3 bP, aI G q_bQ 3 bQ, aI G q_gg n_ gg] H := hP
    have hD : va_D A [oX0 q_b q_bA q_bB q_bZ q_bG q_bP q_bQ (bC + 1) bM bL bD, aI G q_bA 18 (f_X6_copy 0 (bC * 6) 6 gg bA n_ 18), aI G q_bB 60 bB, aI G q_bZ 45 bZ, aI G q_bG 24 bG, aI G q_bP 3 bP, aI G q_bQ 3 bQ, aI G q_gg n_ gg] := hD
    refine lv_goto (tgt := 199) hx hb dX0_addLine_72 (by decide) ?_
    have e9 : f_X0_addLine x1 gg bA bB bZ bG bP bQ bC bM bL bD n_ = (f_X6_copy 0 (bC * 6) 6 gg bA n_ 18, bB, bZ, bG, bP, bQ, (bC + 1), bM, bL, bD) := by rw [f_X0_addLine, if_pos c_1]
    exact fv 199 _ _ _ rfl dX0_addLine_199 rfl (by rw [e9]; exact hP) (by rw [e9]; exact hD) hS
  · rw [if_neg c_1] at hk
    by_cases c_3 : x1 = 1
    · rw [if_pos c_3] at hk
      refine lv_tableIn (tgt := 75) (off := 67) hx hb dX0_addLine_8 (by rw [c_3]; decide) (by rw [c_3]; decide) (by rw [c_3]; rfl) (by decide) ?_
      refine lv_aload_n hx hb dX0_addLine_75 rfl (lv_at hl 3 rfl) ?_
      refine lv_iconst (v := 0) hx hb dX0_addLine_76 (by decide) ?_
      refine lv_aload_n hx hb dX0_addLine_77 rfl (lv_at hl 1 rfl) ?_
      refine va_get (D := gD G) (ci := 0) (v := .ref q_bB) (C := RX0) (T := TX0) (N := 10) hx hb hts i_X0 hown hB.1 hP 0 rfl rfl 1 (by decide) t_2 (fun _ h9 => h9) rfl dX0_addLine_78 ?_
      refine lv_iload_n hx hb dX0_addLine_81 rfl (lv_at hl 0 rfl) ?_
      refine lv_aload_n hx hb dX0_addLine_82 rfl (lv_at hl 1 rfl) ?_
      refine lv_iload_n hx hb dX0_addLine_83 rfl (lv_at hl 0 rfl) ?_
      refine ro_V (ci := 0) (q0 := 0) (As := [.int (bC - 1)]) (rest := [.int (bC - 1), .ref q_bB, .int 0, .ref q_gg]) (c_X0_breakCount l G q_b q_bA q_bB q_bZ q_bG q_bP q_bQ bC bM bL bD bP (bC - 1)) [0, 5] rfl rfl rfl rfl gX0_addLine_X0_breakCount ⟨_, rfl⟩ hd_X0_breakCount rfl dX0_addLine_84 rfl rfl (Nat.le_of_ble_eq_true rfl) ⟨Nat.le_of_ble_eq_true rfl, Nat.le_of_ble_eq_true rfl⟩ ⟨Nat.le_refl 0, Nat.le_refl 0⟩ hx hb hml hown hts hB hS hP hl.1 ?_
      refine W.eq (g2 := F0 m 87 ls [.int (f_X0_breakCount (bC - 1) bP), .int (bC - 1), .ref q_bB, .int 0, .ref q_gg]) rfl ?_
      refine ro_S (As := [.int (bC - 1), .int (f_X0_breakCount (bC - 1) bP)]) (rest := [.ref q_bB, .int 0, .ref q_gg]) (c_X0_breakStart l G (bC - 1) (f_X0_breakCount (bC - 1) bP)) [] rfl gX0_addLine_X0_breakStart ⟨_, rfl⟩ hd_X0_breakStart dX0_addLine_87 rfl rfl (Nat.le_of_ble_eq_true rfl) ⟨Nat.le_of_ble_eq_true rfl, Nat.le_of_ble_eq_true rfl⟩ ⟨Nat.le_refl 0, Nat.le_refl 0⟩ hx hb hml hown hts hB hS hP hl.1 ?_
      refine W.eq (g2 := F0 m 90 ls [.int (f_X0_breakStart (bC - 1) (f_X0_breakCount (bC - 1) bP)), .ref q_bB, .int 0, .ref q_gg]) rfl ?_
      refine lv_iconst (v := 4) hx hb dX0_addLine_90 (by decide) ?_
      obtain ⟨o_4, hk⟩ := hk
      refine wr_SN (As := [.ref q_gg, .int 0, .ref q_bB, .int (f_X0_breakStart (bC - 1) (f_X0_breakCount (bC - 1) bP)), .int 4]) (rest := []) (wr := [oX0 q_b q_bA q_bB q_bZ q_bG q_bP q_bQ bC bM bL bD, aI G q_bA 18 bA, aI G q_bZ 45 bZ, aI G q_bG 24 bG, aI G q_bP 3 bP, aI G q_bQ 3 bQ]) (wf := [oX0 q_b q_bA q_bB q_bZ q_bG q_bP q_bQ bC bM bL bD, aI G q_bA 18 bA, aI G q_bB 60 (f_X6_copy 0 (f_X0_breakStart (bC - 1) (f_X0_breakCount (bC - 1) bP)) 4 gg bB n_ 60), aI G q_bZ 45 bZ, aI G q_bG 24 bG, aI G q_bP 3 bP, aI G q_bQ 3 bQ, aI G q_gg n_ gg]) (c_X6_copy l G n_ 60 hn_n_ (by decide) q_gg q_bB gg bB 0 (f_X0_breakStart (bC - 1) (f_X0_breakCount (bC - 1) bP)) 4 o_4) [7, 2] [0, 1, 3, 4, 5, 6] [0, 1, 7, 2, 3, 4, 5, 6] rfl rfl rfl (by decide) gX0_addLine_X6_copy_n65 ⟨_, rfl⟩ hd_X6_copy 3 rfl m_0 m_1 dX0_addLine_91 rfl rfl (Nat.le_of_ble_eq_true rfl) ⟨Nat.le_of_ble_eq_true rfl, Nat.le_of_ble_eq_true rfl⟩ ⟨Nat.le_refl 0, Nat.le_refl 0⟩ hx hb hml hown hts hB hD hS hA hP hl.1 (fun H locs hP hD hS => ?_)
      refine W.eq (g2 := F0 m 94 ls []) rfl ?_
      refine lv_aload_n hx hb dX0_addLine_94 rfl (lv_at hl 1 rfl) ?_
      refine va_get (D := gD G) (ci := 0) (v := .ref q_bP) (C := RX0) (T := TX0) (N := 10) hx hb hts i_X0 hown hB.1 hP 0 rfl rfl 4 (by decide) t_3 (fun _ h9 => h9) rfl dX0_addLine_95 ?_
      refine lv_iload_n hx hb dX0_addLine_98 rfl (lv_at hl 0 rfl) ?_
      refine lv_aload_n hx hb dX0_addLine_99 rfl (lv_at hl 1 rfl) ?_
      refine lv_iload_n hx hb dX0_addLine_100 rfl (lv_at hl 0 rfl) ?_
      refine ro_V (ci := 0) (q0 := 0) (As := [.int (bC - 1)]) (rest := [.int (bC - 1), .ref q_bP]) (c_X0_breakCount l G q_b q_bA q_bB q_bZ q_bG q_bP q_bQ bC bM bL bD bP (bC - 1)) [0, 5] rfl rfl rfl rfl gX0_addLine_X0_breakCount ⟨_, rfl⟩ hd_X0_breakCount rfl dX0_addLine_101 rfl rfl (Nat.le_of_ble_eq_true rfl) ⟨Nat.le_of_ble_eq_true rfl, Nat.le_of_ble_eq_true rfl⟩ ⟨Nat.le_refl 0, Nat.le_refl 0⟩ hx hb hml hown hts hB hS hP hl.1 ?_
      refine W.eq (g2 := F0 m 104 ls [.int (f_X0_breakCount (bC - 1) bP), .int (bC - 1), .ref q_bP]) rfl ?_
      refine lv_iconst (v := 1) hx hb dX0_addLine_104 (by decide) ?_
      refine lv_iadd hx hb dX0_addLine_105 ?_
      refine wr_SN (As := [.ref q_bP, .int (bC - 1), .int ((f_X0_breakCount (bC - 1) bP) + 1)]) (rest := []) (wr := [oX0 q_b q_bA q_bB q_bZ q_bG q_bP q_bQ bC bM bL bD, aI G q_bA 18 bA, aI G q_bB 60 (f_X6_copy 0 (f_X0_breakStart (bC - 1) (f_X0_breakCount (bC - 1) bP)) 4 gg bB n_ 60), aI G q_bZ 45 bZ, aI G q_bG 24 bG, aI G q_bQ 3 bQ, aI G q_gg n_ gg]) (wf := [oX0 q_b q_bA q_bB q_bZ q_bG q_bP q_bQ bC bM bL bD, aI G q_bA 18 bA, aI G q_bB 60 (f_X6_copy 0 (f_X0_breakStart (bC - 1) (f_X0_breakCount (bC - 1) bP)) 4 gg bB n_ 60), aI G q_bZ 45 bZ, aI G q_bG 24 bG, aI G q_bP 3 (f_X6_store (bC - 1) ((f_X0_breakCount (bC - 1) bP) + 1) bP 3), aI G q_bQ 3 bQ, aI G q_gg n_ gg]) (c_X6_store l G 3 (by decide) q_bP bP (bC - 1) ((f_X0_breakCount (bC - 1) bP) + 1)) [5] [0, 1, 2, 3, 4, 6, 7] [0, 1, 2, 3, 4, 7, 5, 6] rfl rfl rfl (by decide) gX0_addLine_X6_store_n80 ⟨_, rfl⟩ hd_X6_store 5 rfl m_0 m_2 dX0_addLine_106 rfl rfl (Nat.le_of_ble_eq_true rfl) ⟨Nat.le_of_ble_eq_true rfl, Nat.le_of_ble_eq_true rfl⟩ ⟨Nat.le_refl 0, Nat.le_refl 0⟩ hx hb hml hown hts hB hD hS hA hP hl.1 (fun H locs hP hD hS => ?_)
      refine W.eq (g2 := F0 m 109 ls []) rfl ?_
      refine lv_goto (tgt := 199) hx hb dX0_addLine_109 (by decide) ?_
      have e9 : f_X0_addLine x1 gg bA bB bZ bG bP bQ bC bM bL bD n_ = (bA, f_X6_copy 0 (f_X0_breakStart (bC - 1) (f_X0_breakCount (bC - 1) bP)) 4 gg bB n_ 60, bZ, bG, f_X6_store (bC - 1) ((f_X0_breakCount (bC - 1) bP) + 1) bP 3, bQ, bC, bM, bL, bD) := by rw [f_X0_addLine, if_neg c_1, if_pos c_3]
      exact fv 199 _ _ _ rfl dX0_addLine_199 rfl (by rw [e9]; exact hP) (by rw [e9]; exact hD) hS
    · rw [if_neg c_3] at hk
      by_cases c_5 : x1 = 2
      · rw [if_pos c_5] at hk
        refine lv_tableIn (tgt := 112) (off := 104) hx hb dX0_addLine_8 (by rw [c_5]; decide) (by rw [c_5]; decide) (by rw [c_5]; rfl) (by decide) ?_
        refine lv_aload_n hx hb dX0_addLine_112 rfl (lv_at hl 3 rfl) ?_
        refine lv_iconst (v := 0) hx hb dX0_addLine_113 (by decide) ?_
        refine lv_aload_n hx hb dX0_addLine_114 rfl (lv_at hl 1 rfl) ?_
        refine va_get (D := gD G) (ci := 0) (v := .ref q_bZ) (C := RX0) (T := TX0) (N := 10) hx hb hts i_X0 hown hB.1 hP 0 rfl rfl 2 (by decide) t_4 (fun _ h9 => h9) rfl dX0_addLine_115 ?_
        refine lv_iload_n hx hb dX0_addLine_118 rfl (lv_at hl 0 rfl) ?_
        refine lv_aload_n hx hb dX0_addLine_119 rfl (lv_at hl 1 rfl) ?_
        refine lv_iload_n hx hb dX0_addLine_120 rfl (lv_at hl 0 rfl) ?_
        refine ro_V (ci := 0) (q0 := 0) (As := [.int (bC - 1)]) (rest := [.int (bC - 1), .ref q_bZ, .int 0, .ref q_gg]) (c_X0_zonesCount l G q_b q_bA q_bB q_bZ q_bG q_bP q_bQ bC bM bL bD bQ (bC - 1)) [0, 6] rfl rfl rfl rfl gX0_addLine_X0_zonesCount ⟨_, rfl⟩ hd_X0_zonesCount rfl dX0_addLine_121 rfl rfl (Nat.le_of_ble_eq_true rfl) ⟨Nat.le_of_ble_eq_true rfl, Nat.le_of_ble_eq_true rfl⟩ ⟨Nat.le_refl 0, Nat.le_refl 0⟩ hx hb hml hown hts hB hS hP hl.1 ?_
        refine W.eq (g2 := F0 m 124 ls [.int (f_X0_zonesCount (bC - 1) bQ), .int (bC - 1), .ref q_bZ, .int 0, .ref q_gg]) rfl ?_
        refine ro_S (As := [.int (bC - 1), .int (f_X0_zonesCount (bC - 1) bQ)]) (rest := [.ref q_bZ, .int 0, .ref q_gg]) (c_X0_zonesStart l G (bC - 1) (f_X0_zonesCount (bC - 1) bQ)) [] rfl gX0_addLine_X0_zonesStart ⟨_, rfl⟩ hd_X0_zonesStart dX0_addLine_124 rfl rfl (Nat.le_of_ble_eq_true rfl) ⟨Nat.le_of_ble_eq_true rfl, Nat.le_of_ble_eq_true rfl⟩ ⟨Nat.le_refl 0, Nat.le_refl 0⟩ hx hb hml hown hts hB hS hP hl.1 ?_
        refine W.eq (g2 := F0 m 127 ls [.int (f_X0_zonesStart (bC - 1) (f_X0_zonesCount (bC - 1) bQ)), .ref q_bZ, .int 0, .ref q_gg]) rfl ?_
        refine lv_iconst (v := 5) hx hb dX0_addLine_127 (by decide) ?_
        obtain ⟨o_6, hk⟩ := hk
        refine wr_SN (As := [.ref q_gg, .int 0, .ref q_bZ, .int (f_X0_zonesStart (bC - 1) (f_X0_zonesCount (bC - 1) bQ)), .int 5]) (rest := []) (wr := [oX0 q_b q_bA q_bB q_bZ q_bG q_bP q_bQ bC bM bL bD, aI G q_bA 18 bA, aI G q_bB 60 bB, aI G q_bG 24 bG, aI G q_bP 3 bP, aI G q_bQ 3 bQ]) (wf := [oX0 q_b q_bA q_bB q_bZ q_bG q_bP q_bQ bC bM bL bD, aI G q_bA 18 bA, aI G q_bB 60 bB, aI G q_bZ 45 (f_X6_copy 0 (f_X0_zonesStart (bC - 1) (f_X0_zonesCount (bC - 1) bQ)) 5 gg bZ n_ 45), aI G q_bG 24 bG, aI G q_bP 3 bP, aI G q_bQ 3 bQ, aI G q_gg n_ gg]) (c_X6_copy l G n_ 45 hn_n_ (by decide) q_gg q_bZ gg bZ 0 (f_X0_zonesStart (bC - 1) (f_X0_zonesCount (bC - 1) bQ)) 5 o_6) [7, 3] [0, 1, 2, 4, 5, 6] [0, 1, 2, 7, 3, 4, 5, 6] rfl rfl rfl (by decide) gX0_addLine_X6_copy_n65 ⟨_, rfl⟩ hd_X6_copy 3 rfl m_0 m_1 dX0_addLine_128 rfl rfl (Nat.le_of_ble_eq_true rfl) ⟨Nat.le_of_ble_eq_true rfl, Nat.le_of_ble_eq_true rfl⟩ ⟨Nat.le_refl 0, Nat.le_refl 0⟩ hx hb hml hown hts hB hD hS hA hP hl.1 (fun H locs hP hD hS => ?_)
        refine W.eq (g2 := F0 m 131 ls []) rfl ?_
        refine lv_aload_n hx hb dX0_addLine_131 rfl (lv_at hl 1 rfl) ?_
        refine va_get (D := gD G) (ci := 0) (v := .ref q_bQ) (C := RX0) (T := TX0) (N := 10) hx hb hts i_X0 hown hB.1 hP 0 rfl rfl 5 (by decide) t_5 (fun _ h9 => h9) rfl dX0_addLine_132 ?_
        refine lv_iload_n hx hb dX0_addLine_135 rfl (lv_at hl 0 rfl) ?_
        refine lv_aload_n hx hb dX0_addLine_136 rfl (lv_at hl 1 rfl) ?_
        refine lv_iload_n hx hb dX0_addLine_137 rfl (lv_at hl 0 rfl) ?_
        refine ro_V (ci := 0) (q0 := 0) (As := [.int (bC - 1)]) (rest := [.int (bC - 1), .ref q_bQ]) (c_X0_zonesCount l G q_b q_bA q_bB q_bZ q_bG q_bP q_bQ bC bM bL bD bQ (bC - 1)) [0, 6] rfl rfl rfl rfl gX0_addLine_X0_zonesCount ⟨_, rfl⟩ hd_X0_zonesCount rfl dX0_addLine_138 rfl rfl (Nat.le_of_ble_eq_true rfl) ⟨Nat.le_of_ble_eq_true rfl, Nat.le_of_ble_eq_true rfl⟩ ⟨Nat.le_refl 0, Nat.le_refl 0⟩ hx hb hml hown hts hB hS hP hl.1 ?_
        refine W.eq (g2 := F0 m 141 ls [.int (f_X0_zonesCount (bC - 1) bQ), .int (bC - 1), .ref q_bQ]) rfl ?_
        refine lv_iconst (v := 1) hx hb dX0_addLine_141 (by decide) ?_
        refine lv_iadd hx hb dX0_addLine_142 ?_
        refine wr_SN (As := [.ref q_bQ, .int (bC - 1), .int ((f_X0_zonesCount (bC - 1) bQ) + 1)]) (rest := []) (wr := [oX0 q_b q_bA q_bB q_bZ q_bG q_bP q_bQ bC bM bL bD, aI G q_bA 18 bA, aI G q_bB 60 bB, aI G q_bZ 45 (f_X6_copy 0 (f_X0_zonesStart (bC - 1) (f_X0_zonesCount (bC - 1) bQ)) 5 gg bZ n_ 45), aI G q_bG 24 bG, aI G q_bP 3 bP, aI G q_gg n_ gg]) (wf := [oX0 q_b q_bA q_bB q_bZ q_bG q_bP q_bQ bC bM bL bD, aI G q_bA 18 bA, aI G q_bB 60 bB, aI G q_bZ 45 (f_X6_copy 0 (f_X0_zonesStart (bC - 1) (f_X0_zonesCount (bC - 1) bQ)) 5 gg bZ n_ 45), aI G q_bG 24 bG, aI G q_bP 3 bP, aI G q_bQ 3 (f_X6_store (bC - 1) ((f_X0_zonesCount (bC - 1) bQ) + 1) bQ 3), aI G q_gg n_ gg]) (c_X6_store l G 3 (by decide) q_bQ bQ (bC - 1) ((f_X0_zonesCount (bC - 1) bQ) + 1)) [6] [0, 1, 2, 3, 4, 5, 7] [0, 1, 2, 3, 4, 5, 7, 6] rfl rfl rfl (by decide) gX0_addLine_X6_store_n80 ⟨_, rfl⟩ hd_X6_store 5 rfl m_0 m_2 dX0_addLine_143 rfl rfl (Nat.le_of_ble_eq_true rfl) ⟨Nat.le_of_ble_eq_true rfl, Nat.le_of_ble_eq_true rfl⟩ ⟨Nat.le_refl 0, Nat.le_refl 0⟩ hx hb hml hown hts hB hD hS hA hP hl.1 (fun H locs hP hD hS => ?_)
        refine W.eq (g2 := F0 m 146 ls []) rfl ?_
        refine lv_goto (tgt := 199) hx hb dX0_addLine_146 (by decide) ?_
        have e9 : f_X0_addLine x1 gg bA bB bZ bG bP bQ bC bM bL bD n_ = (bA, bB, f_X6_copy 0 (f_X0_zonesStart (bC - 1) (f_X0_zonesCount (bC - 1) bQ)) 5 gg bZ n_ 45, bG, bP, f_X6_store (bC - 1) ((f_X0_zonesCount (bC - 1) bQ) + 1) bQ 3, bC, bM, bL, bD) := by rw [f_X0_addLine, if_neg c_1, if_neg c_3, if_pos c_5]
        exact fv 199 _ _ _ rfl dX0_addLine_199 rfl (by rw [e9]; exact hP) (by rw [e9]; exact hD) hS
      · rw [if_neg c_5] at hk
        by_cases c_7 : x1 = 3
        · rw [if_pos c_7] at hk
          refine lv_tableIn (tgt := 149) (off := 141) hx hb dX0_addLine_8 (by rw [c_7]; decide) (by rw [c_7]; decide) (by rw [c_7]; rfl) (by decide) ?_
          refine lv_aload_n hx hb dX0_addLine_149 rfl (lv_at hl 3 rfl) ?_
          refine lv_iconst (v := 0) hx hb dX0_addLine_150 (by decide) ?_
          refine lv_aload_n hx hb dX0_addLine_151 rfl (lv_at hl 1 rfl) ?_
          refine va_get (D := gD G) (ci := 0) (v := .ref q_bG) (C := RX0) (T := TX0) (N := 10) hx hb hts i_X0 hown hB.1 hP 0 rfl rfl 3 (by decide) t_6 (fun _ h9 => h9) rfl dX0_addLine_152 ?_
          refine lv_aload_n hx hb dX0_addLine_155 rfl (lv_at hl 1 rfl) ?_
          refine va_get (D := gD G) (ci := 0) (v := .int bM) (C := RX0) (T := TX0) (N := 10) hx hb hts i_X0 hown hB.1 hP 0 rfl rfl 7 (by decide) t_7 (fun _ h9 => h9) rfl dX0_addLine_156 ?_
          refine lv_iconst (v := 3) hx hb dX0_addLine_159 (by decide) ?_
          refine lv_imul hx hb dX0_addLine_160 ?_
          refine lv_iconst (v := 3) hx hb dX0_addLine_161 (by decide) ?_
          obtain ⟨o_8, hk⟩ := hk
          refine wr_SN (As := [.ref q_gg, .int 0, .ref q_bG, .int (bM * 3), .int 3]) (rest := []) (wr := [oX0 q_b q_bA q_bB q_bZ q_bG q_bP q_bQ bC bM bL bD, aI G q_bA 18 bA, aI G q_bB 60 bB, aI G q_bZ 45 bZ, aI G q_bP 3 bP, aI G q_bQ 3 bQ]) (wf := [oX0 q_b q_bA q_bB q_bZ q_bG q_bP q_bQ bC bM bL bD, aI G q_bA 18 bA, aI G q_bB 60 bB, aI G q_bZ 45 bZ, aI G q_bG 24 (f_X6_copy 0 (bM * 3) 3 gg bG n_ 24), aI G q_bP 3 bP, aI G q_bQ 3 bQ, aI G q_gg n_ gg]) (c_X6_copy l G n_ 24 hn_n_ (by decide) q_gg q_bG gg bG 0 (bM * 3) 3 o_8) [7, 4] [0, 1, 2, 3, 5, 6] [0, 1, 2, 3, 7, 4, 5, 6] rfl rfl rfl (by decide) gX0_addLine_X6_copy_n65 ⟨_, rfl⟩ hd_X6_copy 3 rfl m_0 m_1 dX0_addLine_162 rfl rfl (Nat.le_of_ble_eq_true rfl) ⟨Nat.le_of_ble_eq_true rfl, Nat.le_of_ble_eq_true rfl⟩ ⟨Nat.le_refl 0, Nat.le_refl 0⟩ hx hb hml hown hts hB hD hS hA hP hl.1 (fun H locs hP hD hS => ?_)
          refine W.eq (g2 := F0 m 165 ls []) rfl ?_
          refine lv_aload_n hx hb dX0_addLine_165 rfl (lv_at hl 1 rfl) ?_
          refine lv_dup hx hb dX0_addLine_166 rfl ?_
          refine va_get (D := gD G) (ci := 0) (v := .int bM) (C := RX0) (T := TX0) (N := 10) hx hb hts i_X0 hown hB.1 hP 0 rfl rfl 7 (by decide) t_7 (fun _ h9 => h9) rfl dX0_addLine_167 ?_
          refine lv_iconst (v := 1) hx hb dX0_addLine_170 (by decide) ?_
          refine lv_iadd hx hb dX0_addLine_171 ?_
          refine va_put (D := gD G) (ci := 0) (v := .int (bM + 1)) (ty := .int) (C := RX0) (T := TX0) (N := 10) hx hb hts i_X0 tyX0 tyX0_ok nmX0 hown hB.1 hP hD hS 0 rfl rfl 7 (by decide) t_7 (fun _ h9 => h9) rfl (by decide +kernel) rfl rfl (Nat.le_of_ble_eq_true rfl) dX0_addLine_172 (fun H locs hP hD hS => ?_)
          have hP : va_P (gD G) vwCl [oX0 q_b q_bA q_bB q_bZ q_bG q_bP q_bQ bC (bM + 1) bL bD, aI G q_bA 18 bA, aI G q_bB 60 bB, aI G q_bZ 45 bZ, aI G q_bG 24 (f_X6_copy 0 (bM * 3) 3 gg bG n_ 24), aI G q_bP 3 bP, aI G q_bQ 3 bQ, aI G q_gg n_ gg] H := hP
          have hD : va_D A [oX0 q_b q_bA q_bB q_bZ q_bG q_bP q_bQ bC (bM + 1) bL bD, aI G q_bA 18 bA, aI G q_bB 60 bB, aI G q_bZ 45 bZ, aI G q_bG 24 (f_X6_copy 0 (bM * 3) 3 gg bG n_ 24), aI G q_bP 3 bP, aI G q_bQ 3 bQ, aI G q_gg n_ gg] := hD
          refine lv_goto (tgt := 199) hx hb dX0_addLine_175 (by decide) ?_
          have e9 : f_X0_addLine x1 gg bA bB bZ bG bP bQ bC bM bL bD n_ = (bA, bB, bZ, f_X6_copy 0 (bM * 3) 3 gg bG n_ 24, bP, bQ, bC, (bM + 1), bL, bD) := by rw [f_X0_addLine, if_neg c_1, if_neg c_3, if_neg c_5, if_pos c_7]
          exact fv 199 _ _ _ rfl dX0_addLine_199 rfl (by rw [e9]; exact hP) (by rw [e9]; exact hD) hS
        · rw [if_neg c_7] at hk
          by_cases c_9 : x1 = 4
          · refine lv_tableIn (tgt := 178) (off := 170) hx hb dX0_addLine_8 (by rw [c_9]; decide) (by rw [c_9]; decide) (by rw [c_9]; rfl) (by decide) ?_
            refine lv_aload_n hx hb dX0_addLine_178 rfl (lv_at hl 1 rfl) ?_
            refine lv_aload_n hx hb dX0_addLine_179 rfl (lv_at hl 3 rfl) ?_
            refine lv_iconst (v := 0) hx hb dX0_addLine_180 (by decide) ?_
            refine ro_SN (As := [.ref q_gg, .int 0]) (rest := [.ref q_b]) (c_X6_at l G n_ hn_n_ q_gg gg 0) [7] rfl gX0_addLine_X6_at_n87 ⟨_, rfl⟩ hd_X6_at 4 rfl m_0 m_3 dX0_addLine_181 rfl rfl (Nat.le_of_ble_eq_true rfl) ⟨Nat.le_of_ble_eq_true rfl, Nat.le_of_ble_eq_true rfl⟩ ⟨Nat.le_refl 0, Nat.le_refl 0⟩ hx hb hml hown hts hB hS hP hl.1 ?_
            refine W.eq (g2 := F0 m 184 ls [.int (f_X6_at 0 gg n_), .ref q_b]) rfl ?_
            refine va_put (D := gD G) (ci := 0) (v := .int (f_X6_at 0 gg n_)) (ty := .int) (C := RX0) (T := TX0) (N := 10) hx hb hts i_X0 tyX0 tyX0_ok nmX0 hown hB.1 hP hD hS 0 rfl rfl 8 (by decide) t_8 (fun _ h9 => h9) rfl (by decide +kernel) rfl rfl (Nat.le_of_ble_eq_true rfl) dX0_addLine_184 (fun H locs hP hD hS => ?_)
            have hP : va_P (gD G) vwCl [oX0 q_b q_bA q_bB q_bZ q_bG q_bP q_bQ bC bM (f_X6_at 0 gg n_) bD, aI G q_bA 18 bA, aI G q_bB 60 bB, aI G q_bZ 45 bZ, aI G q_bG 24 bG, aI G q_bP 3 bP, aI G q_bQ 3 bQ, aI G q_gg n_ gg] H := hP
            have hD : va_D A [oX0 q_b q_bA q_bB q_bZ q_bG q_bP q_bQ bC bM (f_X6_at 0 gg n_) bD, aI G q_bA 18 bA, aI G q_bB 60 bB, aI G q_bZ 45 bZ, aI G q_bG 24 bG, aI G q_bP 3 bP, aI G q_bQ 3 bQ, aI G q_gg n_ gg] := hD
            refine lv_aload_n hx hb dX0_addLine_187 rfl (lv_at hl 1 rfl) ?_
            refine lv_aload_n hx hb dX0_addLine_188 rfl (lv_at hl 3 rfl) ?_
            refine lv_iconst (v := 1) hx hb dX0_addLine_189 (by decide) ?_
            refine ro_SN (As := [.ref q_gg, .int 1]) (rest := [.ref q_b]) (c_X6_at l G n_ hn_n_ q_gg gg 1) [7] rfl gX0_addLine_X6_at_n87 ⟨_, rfl⟩ hd_X6_at 4 rfl m_0 m_3 dX0_addLine_190 rfl rfl (Nat.le_of_ble_eq_true rfl) ⟨Nat.le_of_ble_eq_true rfl, Nat.le_of_ble_eq_true rfl⟩ ⟨Nat.le_refl 0, Nat.le_refl 0⟩ hx hb hml hown hts hB hS hP hl.1 ?_
            refine W.eq (g2 := F0 m 193 ls [.int (f_X6_at 1 gg n_), .ref q_b]) rfl ?_
            refine va_put (D := gD G) (ci := 0) (v := .int (f_X6_at 1 gg n_)) (ty := .int) (C := RX0) (T := TX0) (N := 10) hx hb hts i_X0 tyX0 tyX0_ok nmX0 hown hB.1 hP hD hS 0 rfl rfl 9 (by decide) t_9 (fun _ h9 => h9) rfl (by decide +kernel) rfl rfl (Nat.le_of_ble_eq_true rfl) dX0_addLine_193 (fun H locs hP hD hS => ?_)
            have hP : va_P (gD G) vwCl [oX0 q_b q_bA q_bB q_bZ q_bG q_bP q_bQ bC bM (f_X6_at 0 gg n_) (f_X6_at 1 gg n_), aI G q_bA 18 bA, aI G q_bB 60 bB, aI G q_bZ 45 bZ, aI G q_bG 24 bG, aI G q_bP 3 bP, aI G q_bQ 3 bQ, aI G q_gg n_ gg] H := hP
            have hD : va_D A [oX0 q_b q_bA q_bB q_bZ q_bG q_bP q_bQ bC bM (f_X6_at 0 gg n_) (f_X6_at 1 gg n_), aI G q_bA 18 bA, aI G q_bB 60 bB, aI G q_bZ 45 bZ, aI G q_bG 24 bG, aI G q_bP 3 bP, aI G q_bQ 3 bQ, aI G q_gg n_ gg] := hD
            refine lv_goto (tgt := 199) hx hb dX0_addLine_196 (by decide) ?_
            have e9 : f_X0_addLine x1 gg bA bB bZ bG bP bQ bC bM bL bD n_ = (bA, bB, bZ, bG, bP, bQ, bC, bM, (f_X6_at 0 gg n_), (f_X6_at 1 gg n_)) := by rw [f_X0_addLine, if_neg c_1, if_neg c_3, if_neg c_5, if_neg c_7, if_pos c_9]
            exact fv 199 _ _ _ rfl dX0_addLine_199 rfl (by rw [e9]; exact hP) (by rw [e9]; exact hD) hS
          · refine lv_tableOut (tgt := 199) hx hb dX0_addLine_8 (sw_out 0 4 (fun k h1 h2 => by have h3 : k = 0 ∨ k = 1 ∨ k = 2 ∨ k = 3 ∨ k = 4 := (by omega); rcases h3 with rfl | rfl | rfl | rfl | rfl; exact c_1; exact c_3; exact c_5; exact c_7; exact c_9)) (by decide) ?_
            have e9 : f_X0_addLine x1 gg bA bB bZ bG bP bQ bC bM bL bD n_ = (bA, bB, bZ, bG, bP, bQ, bC, bM, bL, bD) := by rw [f_X0_addLine, if_neg c_1, if_neg c_3, if_neg c_5, if_neg c_7, if_neg c_9]
            exact fv 199 _ _ _ rfl dX0_addLine_199 rfl (by rw [e9]; exact hP) (by rw [e9]; exact hD) hS

noncomputable def f_X0_addLine_S (x1 : Int32) (bA : Nat → Int32) (bB : Nat → Int32) (bZ : Nat → Int32) (bG : Nat → Int32) (bP : Nat → Int32) (bQ : Nat → Int32) (bC : Int32) (bM : Int32) (bL : Int32) (bD : Int32) (L_ : List Int32) : (Nat → Int32) × (Nat → Int32) × (Nat → Int32) × (Nat → Int32) × (Nat → Int32) × (Nat → Int32) × Int32 × Int32 × Int32 × Int32 := (if x1 = 0 then (f_X6_copy_S 0 (bC * 6) 6 bA 18 L_, bB, bZ, bG, bP, bQ, (bC + 1), bM, bL, bD) else (if x1 = 1 then (bA, f_X6_copy_S 0 (f_X0_breakStart (bC - 1) (f_X0_breakCount (bC - 1) bP)) 4 bB 60 L_, bZ, bG, f_X6_store (bC - 1) ((f_X0_breakCount (bC - 1) bP) + 1) bP 3, bQ, bC, bM, bL, bD) else (if x1 = 2 then (bA, bB, f_X6_copy_S 0 (f_X0_zonesStart (bC - 1) (f_X0_zonesCount (bC - 1) bQ)) 5 bZ 45 L_, bG, bP, f_X6_store (bC - 1) ((f_X0_zonesCount (bC - 1) bQ) + 1) bQ 3, bC, bM, bL, bD) else (if x1 = 3 then (bA, bB, bZ, f_X6_copy_S 0 (bM * 3) 3 bG 24 L_, bP, bQ, bC, (bM + 1), bL, bD) else (if x1 = 4 then (bA, bB, bZ, bG, bP, bQ, bC, bM, (f_X6_at_S 0 L_), (f_X6_at_S 1 L_)) else (bA, bB, bZ, bG, bP, bQ, bC, bM, bL, bD))))))
noncomputable def k_X0_addLine_S (x1 : Int32) (bA : Nat → Int32) (bB : Nat → Int32) (bZ : Nat → Int32) (bG : Nat → Int32) (bP : Nat → Int32) (bQ : Nat → Int32) (bC : Int32) (bM : Int32) (L_ : List Int32) : Prop := (if x1 = 0 then (k_X6_copy_S 0 (bC * 6) 6 bA 18 L_ ∧ True) else (if x1 = 1 then (k_X6_copy_S 0 (f_X0_breakStart (bC - 1) (f_X0_breakCount (bC - 1) bP)) 4 bB 60 L_ ∧ True) else (if x1 = 2 then (k_X6_copy_S 0 (f_X0_zonesStart (bC - 1) (f_X0_zonesCount (bC - 1) bQ)) 5 bZ 45 L_ ∧ True) else (if x1 = 3 then (k_X6_copy_S 0 (bM * 3) 3 bG 24 L_ ∧ True) else True))))
set_option maxHeartbeats 4000000 in
set_option maxRecDepth 100000 in
theorem c_X0_addLine_S (l : Launch) (G : BGT) (k_ : Nat) (C_ N_ : String) (L_ : List Int32) (hk_ : bgS[k_]? = some (C_, N_, L_)) (hL_ : L_.length < 2 ^ 31) (q_b q_bA q_bB q_bZ q_bG q_bP q_bQ : Nat) (bC : Int32) (bM : Int32) (bL : Int32) (bD : Int32) (bA : Nat → Int32) (bB : Nat → Int32) (bZ : Nat → Int32) (bG : Nat → Int32) (bP : Nat → Int32) (bQ : Nat → Int32) (x1 : Int32) (hk : k_X0_addLine_S x1 bA bB bZ bG bP bQ bC bM L_) : WR l yX0_addLine wsX0_addLine 2 G [oX0 q_b q_bA q_bB q_bZ q_bG q_bP q_bQ bC bM bL bD, aI G q_bA 18 bA, aI G q_bB 60 bB, aI G q_bZ 45 bZ, aI G q_bG 24 bG, aI G q_bP 3 bP, aI G q_bQ 3 bQ] [oX0 q_b q_bA q_bB q_bZ q_bG q_bP q_bQ ((f_X0_addLine_S x1 bA bB bZ bG bP bQ bC bM bL bD L_).2.2.2.2.2.2.1) ((f_X0_addLine_S x1 bA bB bZ bG bP bQ bC bM bL bD L_).2.2.2.2.2.2.2.1) ((f_X0_addLine_S x1 bA bB bZ bG bP bQ bC bM bL bD L_).2.2.2.2.2.2.2.2.1) ((f_X0_addLine_S x1 bA bB bZ bG bP bQ bC bM bL bD L_).2.2.2.2.2.2.2.2.2), aI G q_bA 18 ((f_X0_addLine_S x1 bA bB bZ bG bP bQ bC bM bL bD L_).1), aI G q_bB 60 ((f_X0_addLine_S x1 bA bB bZ bG bP bQ bC bM bL bD L_).2.1), aI G q_bZ 45 ((f_X0_addLine_S x1 bA bB bZ bG bP bQ bC bM bL bD L_).2.2.1), aI G q_bG 24 ((f_X0_addLine_S x1 bA bB bZ bG bP bQ bC bM bL bD L_).2.2.2.1), aI G q_bP 3 ((f_X0_addLine_S x1 bA bB bZ bG bP bQ bC bM bL bD L_).2.2.2.2.1), aI G q_bQ 3 ((f_X0_addLine_S x1 bA bB bZ bG bP bQ bC bM bL bD L_).2.2.2.2.2.1)] [.ref q_b, .int x1, .ref (gS G k_)] none := by
  refine WR.ofW (cc := cX0_addLine) (maxL := 4) (ret := none) (C := RX0) (by decide) rfl rfl (Nat.le_of_ble_eq_true rfl) ?_
  intro p e s m args below meth c Q ls A hx hb hml hts hown hP hD hS hA hB hl fi fv
  have hl : lv_has ls 4 [(0, .ref q_b), (1, .int x1), (2, .ref (gS G k_))] := hl
  have t_0 := hts (.fieldLink RX0 36 "ParcelSplit$Book" "carrierCount" "I") (by decide +kernel)
  have t_1 := hts (.fieldLink RX0 11 "ParcelSplit$Book" "carriers" "[I") (by decide +kernel)
  have t_2 := hts (.fieldLink RX0 15 "ParcelSplit$Book" "breaks" "[I") (by decide +kernel)
  have t_3 := hts (.fieldLink RX0 24 "ParcelSplit$Book" "breakCounts" "[I") (by decide +kernel)
  have t_4 := hts (.fieldLink RX0 18 "ParcelSplit$Book" "zones" "[I") (by decide +kernel)
  have t_5 := hts (.fieldLink RX0 27 "ParcelSplit$Book" "zonesCounts" "[I") (by decide +kernel)
  have t_6 := hts (.fieldLink RX0 21 "ParcelSplit$Book" "goods" "[I") (by decide +kernel)
  have t_7 := hts (.fieldLink RX0 40 "ParcelSplit$Book" "goodCount" "I") (by decide +kernel)
  have t_8 := hts (.fieldLink RX0 43 "ParcelSplit$Book" "place" "I") (by decide +kernel)
  have t_9 := hts (.fieldLink RX0 46 "ParcelSplit$Book" "day" "I") (by decide +kernel)
  have m_0 : Cond.initialized RX6 ∈ wsX0_addLine := by decide +kernel
  have m_1 : Cond.static yX6_copy ∈ wsX0_addLine := by decide +kernel
  have m_2 : Cond.static yX6_store ∈ wsX0_addLine := by decide +kernel
  have m_3 : Cond.static yX6_at ∈ wsX0_addLine := by decide +kernel
  have i_X0 : ∀ w ∈ wsX00, w ∈ wsX0_addLine := by decide +kernel
  rw [k_X0_addLine_S] at hk
  refine lv_aload_n hx hb dX0_addLine_0 rfl (lv_at hl 0 rfl) ?_
  refine va_get (D := gD G) (ci := 0) (v := .int bC) (C := RX0) (T := TX0) (N := 10) hx hb hts i_X0 hown hB.1 hP 0 rfl rfl 6 (by decide) t_0 (fun _ h9 => h9) rfl dX0_addLine_1 ?_
  refine lv_iconst (v := 1) hx hb dX0_addLine_4 (by decide) ?_
  refine lv_isub hx hb dX0_addLine_5 ?_
  refine lv_istore_n (lv' := [(3, .int (bC - 1)), (0, .ref q_b), (1, .int x1), (2, .ref (gS G k_))]) hx hb dX0_addLine_6 rfl hl (by decide) rfl (fun ls hl => ?_)
  refine lv_iload_n hx hb dX0_addLine_7 rfl (lv_at hl 2 rfl) ?_
  by_cases c_1 : x1 = 0
  · rw [if_pos c_1] at hk
    refine lv_tableIn (tgt := 44) (off := 36) hx hb dX0_addLine_8 (by rw [c_1]; decide) (by rw [c_1]; decide) (by rw [c_1]; rfl) (by decide) ?_
    refine lv_aload_n hx hb dX0_addLine_44 rfl (lv_at hl 3 rfl) ?_
    refine lv_iconst (v := 0) hx hb dX0_addLine_45 (by decide) ?_
    refine lv_aload_n hx hb dX0_addLine_46 rfl (lv_at hl 1 rfl) ?_
    refine va_get (D := gD G) (ci := 0) (v := .ref q_bA) (C := RX0) (T := TX0) (N := 10) hx hb hts i_X0 hown hB.1 hP 0 rfl rfl 0 (by decide) t_1 (fun _ h9 => h9) rfl dX0_addLine_47 ?_
    refine lv_aload_n hx hb dX0_addLine_50 rfl (lv_at hl 1 rfl) ?_
    refine va_get (D := gD G) (ci := 0) (v := .int bC) (C := RX0) (T := TX0) (N := 10) hx hb hts i_X0 hown hB.1 hP 0 rfl rfl 6 (by decide) t_0 (fun _ h9 => h9) rfl dX0_addLine_51 ?_
    refine lv_bipush (v := 6) hx hb dX0_addLine_54 (by decide) ?_
    refine lv_imul hx hb dX0_addLine_56 ?_
    refine lv_bipush (v := 6) hx hb dX0_addLine_57 (by decide) ?_
    obtain ⟨o_2, hk⟩ := hk
    refine wr_SN (As := [.ref (gS G k_), .int 0, .ref q_bA, .int (bC * 6), .int 6]) (rest := []) (wr := [oX0 q_b q_bA q_bB q_bZ q_bG q_bP q_bQ bC bM bL bD, aI G q_bB 60 bB, aI G q_bZ 45 bZ, aI G q_bG 24 bG, aI G q_bP 3 bP, aI G q_bQ 3 bQ]) (wf := [oX0 q_b q_bA q_bB q_bZ q_bG q_bP q_bQ bC bM bL bD, aI G q_bA 18 (f_X6_copy_S 0 (bC * 6) 6 bA 18 L_), aI G q_bB 60 bB, aI G q_bZ 45 bZ, aI G q_bG 24 bG, aI G q_bP 3 bP, aI G q_bQ 3 bQ]) (c_X6_copy_S l G 18 (by decide) k_ C_ N_ L_ hk_ hL_ q_bA bA 0 (bC * 6) 6 o_2) [1] [0, 2, 3, 4, 5, 6] [0, 6, 1, 2, 3, 4, 5] rfl rfl rfl (by decide) gX0_addLine_X6_copy_n65 ⟨_, rfl⟩ hd_X6_copy 3 rfl m_0 m_1 dX0_addLine_59 rfl rfl (Nat.le_of_ble_eq_true rfl) ⟨Nat.le_of_ble_eq_true rfl, Nat.le_of_ble_eq_true rfl⟩ ⟨Nat.le_refl 0, Nat.le_refl 0⟩ hx hb hml hown hts hB hD hS hA hP hl.1 (fun H locs hP hD hS => ?_)
    refine W.eq (g2 := F0 m 62 ls []) rfl ?_
    refine lv_aload_n hx hb dX0_addLine_62 rfl (lv_at hl 1 rfl) ?_
    refine lv_dup hx hb dX0_addLine_63 rfl ?_
    refine va_get (D := gD G) (ci := 0) (v := .int bC) (C := RX0) (T := TX0) (N := 10) hx hb hts i_X0 hown hB.1 hP 0 rfl rfl 6 (by decide) t_0 (fun _ h9 => h9) rfl dX0_addLine_64 ?_
    refine lv_iconst (v := 1) hx hb dX0_addLine_67 (by decide) ?_
    refine lv_iadd hx hb dX0_addLine_68 ?_
    refine va_put (D := gD G) (ci := 0) (v := .int (bC + 1)) (ty := .int) (C := RX0) (T := TX0) (N := 10) hx hb hts i_X0 tyX0 tyX0_ok nmX0 hown hB.1 hP hD hS 0 rfl rfl 6 (by decide) t_0 (fun _ h9 => h9) rfl (by decide +kernel) rfl rfl (Nat.le_of_ble_eq_true rfl) dX0_addLine_69 (fun H locs hP hD hS => ?_)
    have hP : va_P (gD G) vwCl [oX0 q_b q_bA q_bB q_bZ q_bG q_bP q_bQ (bC + 1) bM bL bD, aI G q_bA 18 (f_X6_copy_S 0 (bC * 6) 6 bA 18 L_), aI G q_bB 60 bB, aI G q_bZ 45 bZ, aI G q_bG 24 bG, aI G q_bP 3 bP, aI G q_bQ 3 bQ] H := hP
    have hD : va_D A [oX0 q_b q_bA q_bB q_bZ q_bG q_bP q_bQ (bC + 1) bM bL bD, aI G q_bA 18 (f_X6_copy_S 0 (bC * 6) 6 bA 18 L_), aI G q_bB 60 bB, aI G q_bZ 45 bZ, aI G q_bG 24 bG, aI G q_bP 3 bP, aI G q_bQ 3 bQ] := hD
    refine lv_goto (tgt := 199) hx hb dX0_addLine_72 (by decide) ?_
    have e9 : f_X0_addLine_S x1 bA bB bZ bG bP bQ bC bM bL bD L_ = (f_X6_copy_S 0 (bC * 6) 6 bA 18 L_, bB, bZ, bG, bP, bQ, (bC + 1), bM, bL, bD) := by rw [f_X0_addLine_S, if_pos c_1]
    exact fv 199 _ _ _ rfl dX0_addLine_199 rfl (by rw [e9]; exact hP) (by rw [e9]; exact hD) hS
  · rw [if_neg c_1] at hk
    by_cases c_3 : x1 = 1
    · rw [if_pos c_3] at hk
      refine lv_tableIn (tgt := 75) (off := 67) hx hb dX0_addLine_8 (by rw [c_3]; decide) (by rw [c_3]; decide) (by rw [c_3]; rfl) (by decide) ?_
      refine lv_aload_n hx hb dX0_addLine_75 rfl (lv_at hl 3 rfl) ?_
      refine lv_iconst (v := 0) hx hb dX0_addLine_76 (by decide) ?_
      refine lv_aload_n hx hb dX0_addLine_77 rfl (lv_at hl 1 rfl) ?_
      refine va_get (D := gD G) (ci := 0) (v := .ref q_bB) (C := RX0) (T := TX0) (N := 10) hx hb hts i_X0 hown hB.1 hP 0 rfl rfl 1 (by decide) t_2 (fun _ h9 => h9) rfl dX0_addLine_78 ?_
      refine lv_iload_n hx hb dX0_addLine_81 rfl (lv_at hl 0 rfl) ?_
      refine lv_aload_n hx hb dX0_addLine_82 rfl (lv_at hl 1 rfl) ?_
      refine lv_iload_n hx hb dX0_addLine_83 rfl (lv_at hl 0 rfl) ?_
      refine ro_V (ci := 0) (q0 := 0) (As := [.int (bC - 1)]) (rest := [.int (bC - 1), .ref q_bB, .int 0, .ref (gS G k_)]) (c_X0_breakCount l G q_b q_bA q_bB q_bZ q_bG q_bP q_bQ bC bM bL bD bP (bC - 1)) [0, 5] rfl rfl rfl rfl gX0_addLine_X0_breakCount ⟨_, rfl⟩ hd_X0_breakCount rfl dX0_addLine_84 rfl rfl (Nat.le_of_ble_eq_true rfl) ⟨Nat.le_of_ble_eq_true rfl, Nat.le_of_ble_eq_true rfl⟩ ⟨Nat.le_refl 0, Nat.le_refl 0⟩ hx hb hml hown hts hB hS hP hl.1 ?_
      refine W.eq (g2 := F0 m 87 ls [.int (f_X0_breakCount (bC - 1) bP), .int (bC - 1), .ref q_bB, .int 0, .ref (gS G k_)]) rfl ?_
      refine ro_S (As := [.int (bC - 1), .int (f_X0_breakCount (bC - 1) bP)]) (rest := [.ref q_bB, .int 0, .ref (gS G k_)]) (c_X0_breakStart l G (bC - 1) (f_X0_breakCount (bC - 1) bP)) [] rfl gX0_addLine_X0_breakStart ⟨_, rfl⟩ hd_X0_breakStart dX0_addLine_87 rfl rfl (Nat.le_of_ble_eq_true rfl) ⟨Nat.le_of_ble_eq_true rfl, Nat.le_of_ble_eq_true rfl⟩ ⟨Nat.le_refl 0, Nat.le_refl 0⟩ hx hb hml hown hts hB hS hP hl.1 ?_
      refine W.eq (g2 := F0 m 90 ls [.int (f_X0_breakStart (bC - 1) (f_X0_breakCount (bC - 1) bP)), .ref q_bB, .int 0, .ref (gS G k_)]) rfl ?_
      refine lv_iconst (v := 4) hx hb dX0_addLine_90 (by decide) ?_
      obtain ⟨o_4, hk⟩ := hk
      refine wr_SN (As := [.ref (gS G k_), .int 0, .ref q_bB, .int (f_X0_breakStart (bC - 1) (f_X0_breakCount (bC - 1) bP)), .int 4]) (rest := []) (wr := [oX0 q_b q_bA q_bB q_bZ q_bG q_bP q_bQ bC bM bL bD, aI G q_bA 18 bA, aI G q_bZ 45 bZ, aI G q_bG 24 bG, aI G q_bP 3 bP, aI G q_bQ 3 bQ]) (wf := [oX0 q_b q_bA q_bB q_bZ q_bG q_bP q_bQ bC bM bL bD, aI G q_bA 18 bA, aI G q_bB 60 (f_X6_copy_S 0 (f_X0_breakStart (bC - 1) (f_X0_breakCount (bC - 1) bP)) 4 bB 60 L_), aI G q_bZ 45 bZ, aI G q_bG 24 bG, aI G q_bP 3 bP, aI G q_bQ 3 bQ]) (c_X6_copy_S l G 60 (by decide) k_ C_ N_ L_ hk_ hL_ q_bB bB 0 (f_X0_breakStart (bC - 1) (f_X0_breakCount (bC - 1) bP)) 4 o_4) [2] [0, 1, 3, 4, 5, 6] [0, 1, 6, 2, 3, 4, 5] rfl rfl rfl (by decide) gX0_addLine_X6_copy_n65 ⟨_, rfl⟩ hd_X6_copy 3 rfl m_0 m_1 dX0_addLine_91 rfl rfl (Nat.le_of_ble_eq_true rfl) ⟨Nat.le_of_ble_eq_true rfl, Nat.le_of_ble_eq_true rfl⟩ ⟨Nat.le_refl 0, Nat.le_refl 0⟩ hx hb hml hown hts hB hD hS hA hP hl.1 (fun H locs hP hD hS => ?_)
      refine W.eq (g2 := F0 m 94 ls []) rfl ?_
      refine lv_aload_n hx hb dX0_addLine_94 rfl (lv_at hl 1 rfl) ?_
      refine va_get (D := gD G) (ci := 0) (v := .ref q_bP) (C := RX0) (T := TX0) (N := 10) hx hb hts i_X0 hown hB.1 hP 0 rfl rfl 4 (by decide) t_3 (fun _ h9 => h9) rfl dX0_addLine_95 ?_
      refine lv_iload_n hx hb dX0_addLine_98 rfl (lv_at hl 0 rfl) ?_
      refine lv_aload_n hx hb dX0_addLine_99 rfl (lv_at hl 1 rfl) ?_
      refine lv_iload_n hx hb dX0_addLine_100 rfl (lv_at hl 0 rfl) ?_
      refine ro_V (ci := 0) (q0 := 0) (As := [.int (bC - 1)]) (rest := [.int (bC - 1), .ref q_bP]) (c_X0_breakCount l G q_b q_bA q_bB q_bZ q_bG q_bP q_bQ bC bM bL bD bP (bC - 1)) [0, 5] rfl rfl rfl rfl gX0_addLine_X0_breakCount ⟨_, rfl⟩ hd_X0_breakCount rfl dX0_addLine_101 rfl rfl (Nat.le_of_ble_eq_true rfl) ⟨Nat.le_of_ble_eq_true rfl, Nat.le_of_ble_eq_true rfl⟩ ⟨Nat.le_refl 0, Nat.le_refl 0⟩ hx hb hml hown hts hB hS hP hl.1 ?_
      refine W.eq (g2 := F0 m 104 ls [.int (f_X0_breakCount (bC - 1) bP), .int (bC - 1), .ref q_bP]) rfl ?_
      refine lv_iconst (v := 1) hx hb dX0_addLine_104 (by decide) ?_
      refine lv_iadd hx hb dX0_addLine_105 ?_
      refine wr_SN (As := [.ref q_bP, .int (bC - 1), .int ((f_X0_breakCount (bC - 1) bP) + 1)]) (rest := []) (wr := [oX0 q_b q_bA q_bB q_bZ q_bG q_bP q_bQ bC bM bL bD, aI G q_bA 18 bA, aI G q_bB 60 (f_X6_copy_S 0 (f_X0_breakStart (bC - 1) (f_X0_breakCount (bC - 1) bP)) 4 bB 60 L_), aI G q_bZ 45 bZ, aI G q_bG 24 bG, aI G q_bQ 3 bQ]) (wf := [oX0 q_b q_bA q_bB q_bZ q_bG q_bP q_bQ bC bM bL bD, aI G q_bA 18 bA, aI G q_bB 60 (f_X6_copy_S 0 (f_X0_breakStart (bC - 1) (f_X0_breakCount (bC - 1) bP)) 4 bB 60 L_), aI G q_bZ 45 bZ, aI G q_bG 24 bG, aI G q_bP 3 (f_X6_store (bC - 1) ((f_X0_breakCount (bC - 1) bP) + 1) bP 3), aI G q_bQ 3 bQ]) (c_X6_store l G 3 (by decide) q_bP bP (bC - 1) ((f_X0_breakCount (bC - 1) bP) + 1)) [5] [0, 1, 2, 3, 4, 6] [0, 1, 2, 3, 4, 6, 5] rfl rfl rfl (by decide) gX0_addLine_X6_store_n80 ⟨_, rfl⟩ hd_X6_store 5 rfl m_0 m_2 dX0_addLine_106 rfl rfl (Nat.le_of_ble_eq_true rfl) ⟨Nat.le_of_ble_eq_true rfl, Nat.le_of_ble_eq_true rfl⟩ ⟨Nat.le_refl 0, Nat.le_refl 0⟩ hx hb hml hown hts hB hD hS hA hP hl.1 (fun H locs hP hD hS => ?_)
      refine W.eq (g2 := F0 m 109 ls []) rfl ?_
      refine lv_goto (tgt := 199) hx hb dX0_addLine_109 (by decide) ?_
      have e9 : f_X0_addLine_S x1 bA bB bZ bG bP bQ bC bM bL bD L_ = (bA, f_X6_copy_S 0 (f_X0_breakStart (bC - 1) (f_X0_breakCount (bC - 1) bP)) 4 bB 60 L_, bZ, bG, f_X6_store (bC - 1) ((f_X0_breakCount (bC - 1) bP) + 1) bP 3, bQ, bC, bM, bL, bD) := by rw [f_X0_addLine_S, if_neg c_1, if_pos c_3]
      exact fv 199 _ _ _ rfl dX0_addLine_199 rfl (by rw [e9]; exact hP) (by rw [e9]; exact hD) hS
    · rw [if_neg c_3] at hk
      by_cases c_5 : x1 = 2
      · rw [if_pos c_5] at hk
        refine lv_tableIn (tgt := 112) (off := 104) hx hb dX0_addLine_8 (by rw [c_5]; decide) (by rw [c_5]; decide) (by rw [c_5]; rfl) (by decide) ?_
        refine lv_aload_n hx hb dX0_addLine_112 rfl (lv_at hl 3 rfl) ?_
        refine lv_iconst (v := 0) hx hb dX0_addLine_113 (by decide) ?_
        refine lv_aload_n hx hb dX0_addLine_114 rfl (lv_at hl 1 rfl) ?_
        refine va_get (D := gD G) (ci := 0) (v := .ref q_bZ) (C := RX0) (T := TX0) (N := 10) hx hb hts i_X0 hown hB.1 hP 0 rfl rfl 2 (by decide) t_4 (fun _ h9 => h9) rfl dX0_addLine_115 ?_
        refine lv_iload_n hx hb dX0_addLine_118 rfl (lv_at hl 0 rfl) ?_
        refine lv_aload_n hx hb dX0_addLine_119 rfl (lv_at hl 1 rfl) ?_
        refine lv_iload_n hx hb dX0_addLine_120 rfl (lv_at hl 0 rfl) ?_
        refine ro_V (ci := 0) (q0 := 0) (As := [.int (bC - 1)]) (rest := [.int (bC - 1), .ref q_bZ, .int 0, .ref (gS G k_)]) (c_X0_zonesCount l G q_b q_bA q_bB q_bZ q_bG q_bP q_bQ bC bM bL bD bQ (bC - 1)) [0, 6] rfl rfl rfl rfl gX0_addLine_X0_zonesCount ⟨_, rfl⟩ hd_X0_zonesCount rfl dX0_addLine_121 rfl rfl (Nat.le_of_ble_eq_true rfl) ⟨Nat.le_of_ble_eq_true rfl, Nat.le_of_ble_eq_true rfl⟩ ⟨Nat.le_refl 0, Nat.le_refl 0⟩ hx hb hml hown hts hB hS hP hl.1 ?_
        refine W.eq (g2 := F0 m 124 ls [.int (f_X0_zonesCount (bC - 1) bQ), .int (bC - 1), .ref q_bZ, .int 0, .ref (gS G k_)]) rfl ?_
        refine ro_S (As := [.int (bC - 1), .int (f_X0_zonesCount (bC - 1) bQ)]) (rest := [.ref q_bZ, .int 0, .ref (gS G k_)]) (c_X0_zonesStart l G (bC - 1) (f_X0_zonesCount (bC - 1) bQ)) [] rfl gX0_addLine_X0_zonesStart ⟨_, rfl⟩ hd_X0_zonesStart dX0_addLine_124 rfl rfl (Nat.le_of_ble_eq_true rfl) ⟨Nat.le_of_ble_eq_true rfl, Nat.le_of_ble_eq_true rfl⟩ ⟨Nat.le_refl 0, Nat.le_refl 0⟩ hx hb hml hown hts hB hS hP hl.1 ?_
        refine W.eq (g2 := F0 m 127 ls [.int (f_X0_zonesStart (bC - 1) (f_X0_zonesCount (bC - 1) bQ)), .ref q_bZ, .int 0, .ref (gS G k_)]) rfl ?_
        refine lv_iconst (v := 5) hx hb dX0_addLine_127 (by decide) ?_
        obtain ⟨o_6, hk⟩ := hk
        refine wr_SN (As := [.ref (gS G k_), .int 0, .ref q_bZ, .int (f_X0_zonesStart (bC - 1) (f_X0_zonesCount (bC - 1) bQ)), .int 5]) (rest := []) (wr := [oX0 q_b q_bA q_bB q_bZ q_bG q_bP q_bQ bC bM bL bD, aI G q_bA 18 bA, aI G q_bB 60 bB, aI G q_bG 24 bG, aI G q_bP 3 bP, aI G q_bQ 3 bQ]) (wf := [oX0 q_b q_bA q_bB q_bZ q_bG q_bP q_bQ bC bM bL bD, aI G q_bA 18 bA, aI G q_bB 60 bB, aI G q_bZ 45 (f_X6_copy_S 0 (f_X0_zonesStart (bC - 1) (f_X0_zonesCount (bC - 1) bQ)) 5 bZ 45 L_), aI G q_bG 24 bG, aI G q_bP 3 bP, aI G q_bQ 3 bQ]) (c_X6_copy_S l G 45 (by decide) k_ C_ N_ L_ hk_ hL_ q_bZ bZ 0 (f_X0_zonesStart (bC - 1) (f_X0_zonesCount (bC - 1) bQ)) 5 o_6) [3] [0, 1, 2, 4, 5, 6] [0, 1, 2, 6, 3, 4, 5] rfl rfl rfl (by decide) gX0_addLine_X6_copy_n65 ⟨_, rfl⟩ hd_X6_copy 3 rfl m_0 m_1 dX0_addLine_128 rfl rfl (Nat.le_of_ble_eq_true rfl) ⟨Nat.le_of_ble_eq_true rfl, Nat.le_of_ble_eq_true rfl⟩ ⟨Nat.le_refl 0, Nat.le_refl 0⟩ hx hb hml hown hts hB hD hS hA hP hl.1 (fun H locs hP hD hS => ?_)
        refine W.eq (g2 := F0 m 131 ls []) rfl ?_
        refine lv_aload_n hx hb dX0_addLine_131 rfl (lv_at hl 1 rfl) ?_
        refine va_get (D := gD G) (ci := 0) (v := .ref q_bQ) (C := RX0) (T := TX0) (N := 10) hx hb hts i_X0 hown hB.1 hP 0 rfl rfl 5 (by decide) t_5 (fun _ h9 => h9) rfl dX0_addLine_132 ?_
        refine lv_iload_n hx hb dX0_addLine_135 rfl (lv_at hl 0 rfl) ?_
        refine lv_aload_n hx hb dX0_addLine_136 rfl (lv_at hl 1 rfl) ?_
        refine lv_iload_n hx hb dX0_addLine_137 rfl (lv_at hl 0 rfl) ?_
        refine ro_V (ci := 0) (q0 := 0) (As := [.int (bC - 1)]) (rest := [.int (bC - 1), .ref q_bQ]) (c_X0_zonesCount l G q_b q_bA q_bB q_bZ q_bG q_bP q_bQ bC bM bL bD bQ (bC - 1)) [0, 6] rfl rfl rfl rfl gX0_addLine_X0_zonesCount ⟨_, rfl⟩ hd_X0_zonesCount rfl dX0_addLine_138 rfl rfl (Nat.le_of_ble_eq_true rfl) ⟨Nat.le_of_ble_eq_true rfl, Nat.le_of_ble_eq_true rfl⟩ ⟨Nat.le_refl 0, Nat.le_refl 0⟩ hx hb hml hown hts hB hS hP hl.1 ?_
        refine W.eq (g2 := F0 m 141 ls [.int (f_X0_zonesCount (bC - 1) bQ), .int (bC - 1), .ref q_bQ]) rfl ?_
        refine lv_iconst (v := 1) hx hb dX0_addLine_141 (by decide) ?_
        refine lv_iadd hx hb dX0_addLine_142 ?_
        refine wr_SN (As := [.ref q_bQ, .int (bC - 1), .int ((f_X0_zonesCount (bC - 1) bQ) + 1)]) (rest := []) (wr := [oX0 q_b q_bA q_bB q_bZ q_bG q_bP q_bQ bC bM bL bD, aI G q_bA 18 bA, aI G q_bB 60 bB, aI G q_bZ 45 (f_X6_copy_S 0 (f_X0_zonesStart (bC - 1) (f_X0_zonesCount (bC - 1) bQ)) 5 bZ 45 L_), aI G q_bG 24 bG, aI G q_bP 3 bP]) (wf := [oX0 q_b q_bA q_bB q_bZ q_bG q_bP q_bQ bC bM bL bD, aI G q_bA 18 bA, aI G q_bB 60 bB, aI G q_bZ 45 (f_X6_copy_S 0 (f_X0_zonesStart (bC - 1) (f_X0_zonesCount (bC - 1) bQ)) 5 bZ 45 L_), aI G q_bG 24 bG, aI G q_bP 3 bP, aI G q_bQ 3 (f_X6_store (bC - 1) ((f_X0_zonesCount (bC - 1) bQ) + 1) bQ 3)]) (c_X6_store l G 3 (by decide) q_bQ bQ (bC - 1) ((f_X0_zonesCount (bC - 1) bQ) + 1)) [6] [0, 1, 2, 3, 4, 5] [0, 1, 2, 3, 4, 5, 6] rfl rfl rfl (by decide) gX0_addLine_X6_store_n80 ⟨_, rfl⟩ hd_X6_store 5 rfl m_0 m_2 dX0_addLine_143 rfl rfl (Nat.le_of_ble_eq_true rfl) ⟨Nat.le_of_ble_eq_true rfl, Nat.le_of_ble_eq_true rfl⟩ ⟨Nat.le_refl 0, Nat.le_refl 0⟩ hx hb hml hown hts hB hD hS hA hP hl.1 (fun H locs hP hD hS => ?_)
        refine W.eq (g2 := F0 m 146 ls []) rfl ?_
        refine lv_goto (tgt := 199) hx hb dX0_addLine_146 (by decide) ?_
        have e9 : f_X0_addLine_S x1 bA bB bZ bG bP bQ bC bM bL bD L_ = (bA, bB, f_X6_copy_S 0 (f_X0_zonesStart (bC - 1) (f_X0_zonesCount (bC - 1) bQ)) 5 bZ 45 L_, bG, bP, f_X6_store (bC - 1) ((f_X0_zonesCount (bC - 1) bQ) + 1) bQ 3, bC, bM, bL, bD) := by rw [f_X0_addLine_S, if_neg c_1, if_neg c_3, if_pos c_5]
        exact fv 199 _ _ _ rfl dX0_addLine_199 rfl (by rw [e9]; exact hP) (by rw [e9]; exact hD) hS
      · rw [if_neg c_5] at hk
        by_cases c_7 : x1 = 3
        · rw [if_pos c_7] at hk
          refine lv_tableIn (tgt := 149) (off := 141) hx hb dX0_addLine_8 (by rw [c_7]; decide) (by rw [c_7]; decide) (by rw [c_7]; rfl) (by decide) ?_
          refine lv_aload_n hx hb dX0_addLine_149 rfl (lv_at hl 3 rfl) ?_
          refine lv_iconst (v := 0) hx hb dX0_addLine_150 (by decide) ?_
          refine lv_aload_n hx hb dX0_addLine_151 rfl (lv_at hl 1 rfl) ?_
          refine va_get (D := gD G) (ci := 0) (v := .ref q_bG) (C := RX0) (T := TX0) (N := 10) hx hb hts i_X0 hown hB.1 hP 0 rfl rfl 3 (by decide) t_6 (fun _ h9 => h9) rfl dX0_addLine_152 ?_
          refine lv_aload_n hx hb dX0_addLine_155 rfl (lv_at hl 1 rfl) ?_
          refine va_get (D := gD G) (ci := 0) (v := .int bM) (C := RX0) (T := TX0) (N := 10) hx hb hts i_X0 hown hB.1 hP 0 rfl rfl 7 (by decide) t_7 (fun _ h9 => h9) rfl dX0_addLine_156 ?_
          refine lv_iconst (v := 3) hx hb dX0_addLine_159 (by decide) ?_
          refine lv_imul hx hb dX0_addLine_160 ?_
          refine lv_iconst (v := 3) hx hb dX0_addLine_161 (by decide) ?_
          obtain ⟨o_8, hk⟩ := hk
          refine wr_SN (As := [.ref (gS G k_), .int 0, .ref q_bG, .int (bM * 3), .int 3]) (rest := []) (wr := [oX0 q_b q_bA q_bB q_bZ q_bG q_bP q_bQ bC bM bL bD, aI G q_bA 18 bA, aI G q_bB 60 bB, aI G q_bZ 45 bZ, aI G q_bP 3 bP, aI G q_bQ 3 bQ]) (wf := [oX0 q_b q_bA q_bB q_bZ q_bG q_bP q_bQ bC bM bL bD, aI G q_bA 18 bA, aI G q_bB 60 bB, aI G q_bZ 45 bZ, aI G q_bG 24 (f_X6_copy_S 0 (bM * 3) 3 bG 24 L_), aI G q_bP 3 bP, aI G q_bQ 3 bQ]) (c_X6_copy_S l G 24 (by decide) k_ C_ N_ L_ hk_ hL_ q_bG bG 0 (bM * 3) 3 o_8) [4] [0, 1, 2, 3, 5, 6] [0, 1, 2, 3, 6, 4, 5] rfl rfl rfl (by decide) gX0_addLine_X6_copy_n65 ⟨_, rfl⟩ hd_X6_copy 3 rfl m_0 m_1 dX0_addLine_162 rfl rfl (Nat.le_of_ble_eq_true rfl) ⟨Nat.le_of_ble_eq_true rfl, Nat.le_of_ble_eq_true rfl⟩ ⟨Nat.le_refl 0, Nat.le_refl 0⟩ hx hb hml hown hts hB hD hS hA hP hl.1 (fun H locs hP hD hS => ?_)
          refine W.eq (g2 := F0 m 165 ls []) rfl ?_
          refine lv_aload_n hx hb dX0_addLine_165 rfl (lv_at hl 1 rfl) ?_
          refine lv_dup hx hb dX0_addLine_166 rfl ?_
          refine va_get (D := gD G) (ci := 0) (v := .int bM) (C := RX0) (T := TX0) (N := 10) hx hb hts i_X0 hown hB.1 hP 0 rfl rfl 7 (by decide) t_7 (fun _ h9 => h9) rfl dX0_addLine_167 ?_
          refine lv_iconst (v := 1) hx hb dX0_addLine_170 (by decide) ?_
          refine lv_iadd hx hb dX0_addLine_171 ?_
          refine va_put (D := gD G) (ci := 0) (v := .int (bM + 1)) (ty := .int) (C := RX0) (T := TX0) (N := 10) hx hb hts i_X0 tyX0 tyX0_ok nmX0 hown hB.1 hP hD hS 0 rfl rfl 7 (by decide) t_7 (fun _ h9 => h9) rfl (by decide +kernel) rfl rfl (Nat.le_of_ble_eq_true rfl) dX0_addLine_172 (fun H locs hP hD hS => ?_)
          have hP : va_P (gD G) vwCl [oX0 q_b q_bA q_bB q_bZ q_bG q_bP q_bQ bC (bM + 1) bL bD, aI G q_bA 18 bA, aI G q_bB 60 bB, aI G q_bZ 45 bZ, aI G q_bG 24 (f_X6_copy_S 0 (bM * 3) 3 bG 24 L_), aI G q_bP 3 bP, aI G q_bQ 3 bQ] H := hP
          have hD : va_D A [oX0 q_b q_bA q_bB q_bZ q_bG q_bP q_bQ bC (bM + 1) bL bD, aI G q_bA 18 bA, aI G q_bB 60 bB, aI G q_bZ 45 bZ, aI G q_bG 24 (f_X6_copy_S 0 (bM * 3) 3 bG 24 L_), aI G q_bP 3 bP, aI G q_bQ 3 bQ] := hD
          refine lv_goto (tgt := 199) hx hb dX0_addLine_175 (by decide) ?_
          have e9 : f_X0_addLine_S x1 bA bB bZ bG bP bQ bC bM bL bD L_ = (bA, bB, bZ, f_X6_copy_S 0 (bM * 3) 3 bG 24 L_, bP, bQ, bC, (bM + 1), bL, bD) := by rw [f_X0_addLine_S, if_neg c_1, if_neg c_3, if_neg c_5, if_pos c_7]
          exact fv 199 _ _ _ rfl dX0_addLine_199 rfl (by rw [e9]; exact hP) (by rw [e9]; exact hD) hS
        · rw [if_neg c_7] at hk
          by_cases c_9 : x1 = 4
          · refine lv_tableIn (tgt := 178) (off := 170) hx hb dX0_addLine_8 (by rw [c_9]; decide) (by rw [c_9]; decide) (by rw [c_9]; rfl) (by decide) ?_
            refine lv_aload_n hx hb dX0_addLine_178 rfl (lv_at hl 1 rfl) ?_
            refine lv_aload_n hx hb dX0_addLine_179 rfl (lv_at hl 3 rfl) ?_
            refine lv_iconst (v := 0) hx hb dX0_addLine_180 (by decide) ?_
            refine ro_SN (As := [.ref (gS G k_), .int 0]) (rest := [.ref q_b]) (c_X6_at_S l G k_ C_ N_ L_ hk_ hL_ 0) [] rfl gX0_addLine_X6_at_n87 ⟨_, rfl⟩ hd_X6_at 4 rfl m_0 m_3 dX0_addLine_181 rfl rfl (Nat.le_of_ble_eq_true rfl) ⟨Nat.le_of_ble_eq_true rfl, Nat.le_of_ble_eq_true rfl⟩ ⟨Nat.le_refl 0, Nat.le_refl 0⟩ hx hb hml hown hts hB hS hP hl.1 ?_
            refine W.eq (g2 := F0 m 184 ls [.int (f_X6_at_S 0 L_), .ref q_b]) rfl ?_
            refine va_put (D := gD G) (ci := 0) (v := .int (f_X6_at_S 0 L_)) (ty := .int) (C := RX0) (T := TX0) (N := 10) hx hb hts i_X0 tyX0 tyX0_ok nmX0 hown hB.1 hP hD hS 0 rfl rfl 8 (by decide) t_8 (fun _ h9 => h9) rfl (by decide +kernel) rfl rfl (Nat.le_of_ble_eq_true rfl) dX0_addLine_184 (fun H locs hP hD hS => ?_)
            have hP : va_P (gD G) vwCl [oX0 q_b q_bA q_bB q_bZ q_bG q_bP q_bQ bC bM (f_X6_at_S 0 L_) bD, aI G q_bA 18 bA, aI G q_bB 60 bB, aI G q_bZ 45 bZ, aI G q_bG 24 bG, aI G q_bP 3 bP, aI G q_bQ 3 bQ] H := hP
            have hD : va_D A [oX0 q_b q_bA q_bB q_bZ q_bG q_bP q_bQ bC bM (f_X6_at_S 0 L_) bD, aI G q_bA 18 bA, aI G q_bB 60 bB, aI G q_bZ 45 bZ, aI G q_bG 24 bG, aI G q_bP 3 bP, aI G q_bQ 3 bQ] := hD
            refine lv_aload_n hx hb dX0_addLine_187 rfl (lv_at hl 1 rfl) ?_
            refine lv_aload_n hx hb dX0_addLine_188 rfl (lv_at hl 3 rfl) ?_
            refine lv_iconst (v := 1) hx hb dX0_addLine_189 (by decide) ?_
            refine ro_SN (As := [.ref (gS G k_), .int 1]) (rest := [.ref q_b]) (c_X6_at_S l G k_ C_ N_ L_ hk_ hL_ 1) [] rfl gX0_addLine_X6_at_n87 ⟨_, rfl⟩ hd_X6_at 4 rfl m_0 m_3 dX0_addLine_190 rfl rfl (Nat.le_of_ble_eq_true rfl) ⟨Nat.le_of_ble_eq_true rfl, Nat.le_of_ble_eq_true rfl⟩ ⟨Nat.le_refl 0, Nat.le_refl 0⟩ hx hb hml hown hts hB hS hP hl.1 ?_
            refine W.eq (g2 := F0 m 193 ls [.int (f_X6_at_S 1 L_), .ref q_b]) rfl ?_
            refine va_put (D := gD G) (ci := 0) (v := .int (f_X6_at_S 1 L_)) (ty := .int) (C := RX0) (T := TX0) (N := 10) hx hb hts i_X0 tyX0 tyX0_ok nmX0 hown hB.1 hP hD hS 0 rfl rfl 9 (by decide) t_9 (fun _ h9 => h9) rfl (by decide +kernel) rfl rfl (Nat.le_of_ble_eq_true rfl) dX0_addLine_193 (fun H locs hP hD hS => ?_)
            have hP : va_P (gD G) vwCl [oX0 q_b q_bA q_bB q_bZ q_bG q_bP q_bQ bC bM (f_X6_at_S 0 L_) (f_X6_at_S 1 L_), aI G q_bA 18 bA, aI G q_bB 60 bB, aI G q_bZ 45 bZ, aI G q_bG 24 bG, aI G q_bP 3 bP, aI G q_bQ 3 bQ] H := hP
            have hD : va_D A [oX0 q_b q_bA q_bB q_bZ q_bG q_bP q_bQ bC bM (f_X6_at_S 0 L_) (f_X6_at_S 1 L_), aI G q_bA 18 bA, aI G q_bB 60 bB, aI G q_bZ 45 bZ, aI G q_bG 24 bG, aI G q_bP 3 bP, aI G q_bQ 3 bQ] := hD
            refine lv_goto (tgt := 199) hx hb dX0_addLine_196 (by decide) ?_
            have e9 : f_X0_addLine_S x1 bA bB bZ bG bP bQ bC bM bL bD L_ = (bA, bB, bZ, bG, bP, bQ, bC, bM, (f_X6_at_S 0 L_), (f_X6_at_S 1 L_)) := by rw [f_X0_addLine_S, if_neg c_1, if_neg c_3, if_neg c_5, if_neg c_7, if_pos c_9]
            exact fv 199 _ _ _ rfl dX0_addLine_199 rfl (by rw [e9]; exact hP) (by rw [e9]; exact hD) hS
          · refine lv_tableOut (tgt := 199) hx hb dX0_addLine_8 (sw_out 0 4 (fun k h1 h2 => by have h3 : k = 0 ∨ k = 1 ∨ k = 2 ∨ k = 3 ∨ k = 4 := (by omega); rcases h3 with rfl | rfl | rfl | rfl | rfl; exact c_1; exact c_3; exact c_5; exact c_7; exact c_9)) (by decide) ?_
            have e9 : f_X0_addLine_S x1 bA bB bZ bG bP bQ bC bM bL bD L_ = (bA, bB, bZ, bG, bP, bQ, bC, bM, bL, bD) := by rw [f_X0_addLine_S, if_neg c_1, if_neg c_3, if_neg c_5, if_neg c_7, if_neg c_9]
            exact fv 199 _ _ _ rfl dX0_addLine_199 rfl (by rw [e9]; exact hP) (by rw [e9]; exact hD) hS

noncomputable def f_X0_fillAtFirst_L28 (w_bA : Nat → Int32) (w_bB : Nat → Int32) (w_bZ : Nat → Int32) (w_bG : Nat → Int32) (w_bP : Nat → Int32) (w_bQ : Nat → Int32) (w_bC : Int32) (w_bM : Int32) (w_bL : Int32) (w_bD : Int32) : (Nat → Int32) × (Nat → Int32) × (Nat → Int32) × (Nat → Int32) × (Nat → Int32) × (Nat → Int32) × Int32 × Int32 × Int32 × Int32 := (w_bA, w_bB, w_bZ, w_bG, w_bP, w_bQ, w_bC, w_bM, w_bL, w_bD)
noncomputable def k_X0_fillAtFirst_L28 (w_bA : Nat → Int32) (w_bB : Nat → Int32) (w_bZ : Nat → Int32) (w_bG : Nat → Int32) (w_bP : Nat → Int32) (w_bQ : Nat → Int32) (w_bC : Int32) (w_bM : Int32) (w_bL : Int32) (w_bD : Int32) : Prop := True
noncomputable def f_X0_fillAtFirst_L12 (w_bA : Nat → Int32) (w_bB : Nat → Int32) (w_bZ : Nat → Int32) (w_bG : Nat → Int32) (w_bP : Nat → Int32) (w_bQ : Nat → Int32) (w_bC : Int32) (w_bM : Int32) (w_bL : Int32) (w_bD : Int32) : (Nat → Int32) × (Nat → Int32) × (Nat → Int32) × (Nat → Int32) × (Nat → Int32) × (Nat → Int32) × Int32 × Int32 × Int32 × Int32 := f_X0_fillAtFirst_L28  ((f_X0_addLine_S 2 ((f_X0_addLine_S 1 w_bA w_bB w_bZ w_bG w_bP w_bQ w_bC w_bM w_bL w_bD bgS1).1) ((f_X0_addLine_S 1 w_bA w_bB w_bZ w_bG w_bP w_bQ w_bC w_bM w_bL w_bD bgS1).2.1) ((f_X0_addLine_S 1 w_bA w_bB w_bZ w_bG w_bP w_bQ w_bC w_bM w_bL w_bD bgS1).2.2.1) ((f_X0_addLine_S 1 w_bA w_bB w_bZ w_bG w_bP w_bQ w_bC w_bM w_bL w_bD bgS1).2.2.2.1) ((f_X0_addLine_S 1 w_bA w_bB w_bZ w_bG w_bP w_bQ w_bC w_bM w_bL w_bD bgS1).2.2.2.2.1) ((f_X0_addLine_S 1 w_bA w_bB w_bZ w_bG w_bP w_bQ w_bC w_bM w_bL w_bD bgS1).2.2.2.2.2.1) ((f_X0_addLine_S 1 w_bA w_bB w_bZ w_bG w_bP w_bQ w_bC w_bM w_bL w_bD bgS1).2.2.2.2.2.2.1) ((f_X0_addLine_S 1 w_bA w_bB w_bZ w_bG w_bP w_bQ w_bC w_bM w_bL w_bD bgS1).2.2.2.2.2.2.2.1) ((f_X0_addLine_S 1 w_bA w_bB w_bZ w_bG w_bP w_bQ w_bC w_bM w_bL w_bD bgS1).2.2.2.2.2.2.2.2.1) ((f_X0_addLine_S 1 w_bA w_bB w_bZ w_bG w_bP w_bQ w_bC w_bM w_bL w_bD bgS1).2.2.2.2.2.2.2.2.2) bgS2).1) ((f_X0_addLine_S 2 ((f_X0_addLine_S 1 w_bA w_bB w_bZ w_bG w_bP w_bQ w_bC w_bM w_bL w_bD bgS1).1) ((f_X0_addLine_S 1 w_bA w_bB w_bZ w_bG w_bP w_bQ w_bC w_bM w_bL w_bD bgS1).2.1) ((f_X0_addLine_S 1 w_bA w_bB w_bZ w_bG w_bP w_bQ w_bC w_bM w_bL w_bD bgS1).2.2.1) ((f_X0_addLine_S 1 w_bA w_bB w_bZ w_bG w_bP w_bQ w_bC w_bM w_bL w_bD bgS1).2.2.2.1) ((f_X0_addLine_S 1 w_bA w_bB w_bZ w_bG w_bP w_bQ w_bC w_bM w_bL w_bD bgS1).2.2.2.2.1) ((f_X0_addLine_S 1 w_bA w_bB w_bZ w_bG w_bP w_bQ w_bC w_bM w_bL w_bD bgS1).2.2.2.2.2.1) ((f_X0_addLine_S 1 w_bA w_bB w_bZ w_bG w_bP w_bQ w_bC w_bM w_bL w_bD bgS1).2.2.2.2.2.2.1) ((f_X0_addLine_S 1 w_bA w_bB w_bZ w_bG w_bP w_bQ w_bC w_bM w_bL w_bD bgS1).2.2.2.2.2.2.2.1) ((f_X0_addLine_S 1 w_bA w_bB w_bZ w_bG w_bP w_bQ w_bC w_bM w_bL w_bD bgS1).2.2.2.2.2.2.2.2.1) ((f_X0_addLine_S 1 w_bA w_bB w_bZ w_bG w_bP w_bQ w_bC w_bM w_bL w_bD bgS1).2.2.2.2.2.2.2.2.2) bgS2).2.1) ((f_X0_addLine_S 2 ((f_X0_addLine_S 1 w_bA w_bB w_bZ w_bG w_bP w_bQ w_bC w_bM w_bL w_bD bgS1).1) ((f_X0_addLine_S 1 w_bA w_bB w_bZ w_bG w_bP w_bQ w_bC w_bM w_bL w_bD bgS1).2.1) ((f_X0_addLine_S 1 w_bA w_bB w_bZ w_bG w_bP w_bQ w_bC w_bM w_bL w_bD bgS1).2.2.1) ((f_X0_addLine_S 1 w_bA w_bB w_bZ w_bG w_bP w_bQ w_bC w_bM w_bL w_bD bgS1).2.2.2.1) ((f_X0_addLine_S 1 w_bA w_bB w_bZ w_bG w_bP w_bQ w_bC w_bM w_bL w_bD bgS1).2.2.2.2.1) ((f_X0_addLine_S 1 w_bA w_bB w_bZ w_bG w_bP w_bQ w_bC w_bM w_bL w_bD bgS1).2.2.2.2.2.1) ((f_X0_addLine_S 1 w_bA w_bB w_bZ w_bG w_bP w_bQ w_bC w_bM w_bL w_bD bgS1).2.2.2.2.2.2.1) ((f_X0_addLine_S 1 w_bA w_bB w_bZ w_bG w_bP w_bQ w_bC w_bM w_bL w_bD bgS1).2.2.2.2.2.2.2.1) ((f_X0_addLine_S 1 w_bA w_bB w_bZ w_bG w_bP w_bQ w_bC w_bM w_bL w_bD bgS1).2.2.2.2.2.2.2.2.1) ((f_X0_addLine_S 1 w_bA w_bB w_bZ w_bG w_bP w_bQ w_bC w_bM w_bL w_bD bgS1).2.2.2.2.2.2.2.2.2) bgS2).2.2.1) ((f_X0_addLine_S 2 ((f_X0_addLine_S 1 w_bA w_bB w_bZ w_bG w_bP w_bQ w_bC w_bM w_bL w_bD bgS1).1) ((f_X0_addLine_S 1 w_bA w_bB w_bZ w_bG w_bP w_bQ w_bC w_bM w_bL w_bD bgS1).2.1) ((f_X0_addLine_S 1 w_bA w_bB w_bZ w_bG w_bP w_bQ w_bC w_bM w_bL w_bD bgS1).2.2.1) ((f_X0_addLine_S 1 w_bA w_bB w_bZ w_bG w_bP w_bQ w_bC w_bM w_bL w_bD bgS1).2.2.2.1) ((f_X0_addLine_S 1 w_bA w_bB w_bZ w_bG w_bP w_bQ w_bC w_bM w_bL w_bD bgS1).2.2.2.2.1) ((f_X0_addLine_S 1 w_bA w_bB w_bZ w_bG w_bP w_bQ w_bC w_bM w_bL w_bD bgS1).2.2.2.2.2.1) ((f_X0_addLine_S 1 w_bA w_bB w_bZ w_bG w_bP w_bQ w_bC w_bM w_bL w_bD bgS1).2.2.2.2.2.2.1) ((f_X0_addLine_S 1 w_bA w_bB w_bZ w_bG w_bP w_bQ w_bC w_bM w_bL w_bD bgS1).2.2.2.2.2.2.2.1) ((f_X0_addLine_S 1 w_bA w_bB w_bZ w_bG w_bP w_bQ w_bC w_bM w_bL w_bD bgS1).2.2.2.2.2.2.2.2.1) ((f_X0_addLine_S 1 w_bA w_bB w_bZ w_bG w_bP w_bQ w_bC w_bM w_bL w_bD bgS1).2.2.2.2.2.2.2.2.2) bgS2).2.2.2.1) ((f_X0_addLine_S 2 ((f_X0_addLine_S 1 w_bA w_bB w_bZ w_bG w_bP w_bQ w_bC w_bM w_bL w_bD bgS1).1) ((f_X0_addLine_S 1 w_bA w_bB w_bZ w_bG w_bP w_bQ w_bC w_bM w_bL w_bD bgS1).2.1) ((f_X0_addLine_S 1 w_bA w_bB w_bZ w_bG w_bP w_bQ w_bC w_bM w_bL w_bD bgS1).2.2.1) ((f_X0_addLine_S 1 w_bA w_bB w_bZ w_bG w_bP w_bQ w_bC w_bM w_bL w_bD bgS1).2.2.2.1) ((f_X0_addLine_S 1 w_bA w_bB w_bZ w_bG w_bP w_bQ w_bC w_bM w_bL w_bD bgS1).2.2.2.2.1) ((f_X0_addLine_S 1 w_bA w_bB w_bZ w_bG w_bP w_bQ w_bC w_bM w_bL w_bD bgS1).2.2.2.2.2.1) ((f_X0_addLine_S 1 w_bA w_bB w_bZ w_bG w_bP w_bQ w_bC w_bM w_bL w_bD bgS1).2.2.2.2.2.2.1) ((f_X0_addLine_S 1 w_bA w_bB w_bZ w_bG w_bP w_bQ w_bC w_bM w_bL w_bD bgS1).2.2.2.2.2.2.2.1) ((f_X0_addLine_S 1 w_bA w_bB w_bZ w_bG w_bP w_bQ w_bC w_bM w_bL w_bD bgS1).2.2.2.2.2.2.2.2.1) ((f_X0_addLine_S 1 w_bA w_bB w_bZ w_bG w_bP w_bQ w_bC w_bM w_bL w_bD bgS1).2.2.2.2.2.2.2.2.2) bgS2).2.2.2.2.1) ((f_X0_addLine_S 2 ((f_X0_addLine_S 1 w_bA w_bB w_bZ w_bG w_bP w_bQ w_bC w_bM w_bL w_bD bgS1).1) ((f_X0_addLine_S 1 w_bA w_bB w_bZ w_bG w_bP w_bQ w_bC w_bM w_bL w_bD bgS1).2.1) ((f_X0_addLine_S 1 w_bA w_bB w_bZ w_bG w_bP w_bQ w_bC w_bM w_bL w_bD bgS1).2.2.1) ((f_X0_addLine_S 1 w_bA w_bB w_bZ w_bG w_bP w_bQ w_bC w_bM w_bL w_bD bgS1).2.2.2.1) ((f_X0_addLine_S 1 w_bA w_bB w_bZ w_bG w_bP w_bQ w_bC w_bM w_bL w_bD bgS1).2.2.2.2.1) ((f_X0_addLine_S 1 w_bA w_bB w_bZ w_bG w_bP w_bQ w_bC w_bM w_bL w_bD bgS1).2.2.2.2.2.1) ((f_X0_addLine_S 1 w_bA w_bB w_bZ w_bG w_bP w_bQ w_bC w_bM w_bL w_bD bgS1).2.2.2.2.2.2.1) ((f_X0_addLine_S 1 w_bA w_bB w_bZ w_bG w_bP w_bQ w_bC w_bM w_bL w_bD bgS1).2.2.2.2.2.2.2.1) ((f_X0_addLine_S 1 w_bA w_bB w_bZ w_bG w_bP w_bQ w_bC w_bM w_bL w_bD bgS1).2.2.2.2.2.2.2.2.1) ((f_X0_addLine_S 1 w_bA w_bB w_bZ w_bG w_bP w_bQ w_bC w_bM w_bL w_bD bgS1).2.2.2.2.2.2.2.2.2) bgS2).2.2.2.2.2.1) ((f_X0_addLine_S 2 ((f_X0_addLine_S 1 w_bA w_bB w_bZ w_bG w_bP w_bQ w_bC w_bM w_bL w_bD bgS1).1) ((f_X0_addLine_S 1 w_bA w_bB w_bZ w_bG w_bP w_bQ w_bC w_bM w_bL w_bD bgS1).2.1) ((f_X0_addLine_S 1 w_bA w_bB w_bZ w_bG w_bP w_bQ w_bC w_bM w_bL w_bD bgS1).2.2.1) ((f_X0_addLine_S 1 w_bA w_bB w_bZ w_bG w_bP w_bQ w_bC w_bM w_bL w_bD bgS1).2.2.2.1) ((f_X0_addLine_S 1 w_bA w_bB w_bZ w_bG w_bP w_bQ w_bC w_bM w_bL w_bD bgS1).2.2.2.2.1) ((f_X0_addLine_S 1 w_bA w_bB w_bZ w_bG w_bP w_bQ w_bC w_bM w_bL w_bD bgS1).2.2.2.2.2.1) ((f_X0_addLine_S 1 w_bA w_bB w_bZ w_bG w_bP w_bQ w_bC w_bM w_bL w_bD bgS1).2.2.2.2.2.2.1) ((f_X0_addLine_S 1 w_bA w_bB w_bZ w_bG w_bP w_bQ w_bC w_bM w_bL w_bD bgS1).2.2.2.2.2.2.2.1) ((f_X0_addLine_S 1 w_bA w_bB w_bZ w_bG w_bP w_bQ w_bC w_bM w_bL w_bD bgS1).2.2.2.2.2.2.2.2.1) ((f_X0_addLine_S 1 w_bA w_bB w_bZ w_bG w_bP w_bQ w_bC w_bM w_bL w_bD bgS1).2.2.2.2.2.2.2.2.2) bgS2).2.2.2.2.2.2.1) ((f_X0_addLine_S 2 ((f_X0_addLine_S 1 w_bA w_bB w_bZ w_bG w_bP w_bQ w_bC w_bM w_bL w_bD bgS1).1) ((f_X0_addLine_S 1 w_bA w_bB w_bZ w_bG w_bP w_bQ w_bC w_bM w_bL w_bD bgS1).2.1) ((f_X0_addLine_S 1 w_bA w_bB w_bZ w_bG w_bP w_bQ w_bC w_bM w_bL w_bD bgS1).2.2.1) ((f_X0_addLine_S 1 w_bA w_bB w_bZ w_bG w_bP w_bQ w_bC w_bM w_bL w_bD bgS1).2.2.2.1) ((f_X0_addLine_S 1 w_bA w_bB w_bZ w_bG w_bP w_bQ w_bC w_bM w_bL w_bD bgS1).2.2.2.2.1) ((f_X0_addLine_S 1 w_bA w_bB w_bZ w_bG w_bP w_bQ w_bC w_bM w_bL w_bD bgS1).2.2.2.2.2.1) ((f_X0_addLine_S 1 w_bA w_bB w_bZ w_bG w_bP w_bQ w_bC w_bM w_bL w_bD bgS1).2.2.2.2.2.2.1) ((f_X0_addLine_S 1 w_bA w_bB w_bZ w_bG w_bP w_bQ w_bC w_bM w_bL w_bD bgS1).2.2.2.2.2.2.2.1) ((f_X0_addLine_S 1 w_bA w_bB w_bZ w_bG w_bP w_bQ w_bC w_bM w_bL w_bD bgS1).2.2.2.2.2.2.2.2.1) ((f_X0_addLine_S 1 w_bA w_bB w_bZ w_bG w_bP w_bQ w_bC w_bM w_bL w_bD bgS1).2.2.2.2.2.2.2.2.2) bgS2).2.2.2.2.2.2.2.1) ((f_X0_addLine_S 2 ((f_X0_addLine_S 1 w_bA w_bB w_bZ w_bG w_bP w_bQ w_bC w_bM w_bL w_bD bgS1).1) ((f_X0_addLine_S 1 w_bA w_bB w_bZ w_bG w_bP w_bQ w_bC w_bM w_bL w_bD bgS1).2.1) ((f_X0_addLine_S 1 w_bA w_bB w_bZ w_bG w_bP w_bQ w_bC w_bM w_bL w_bD bgS1).2.2.1) ((f_X0_addLine_S 1 w_bA w_bB w_bZ w_bG w_bP w_bQ w_bC w_bM w_bL w_bD bgS1).2.2.2.1) ((f_X0_addLine_S 1 w_bA w_bB w_bZ w_bG w_bP w_bQ w_bC w_bM w_bL w_bD bgS1).2.2.2.2.1) ((f_X0_addLine_S 1 w_bA w_bB w_bZ w_bG w_bP w_bQ w_bC w_bM w_bL w_bD bgS1).2.2.2.2.2.1) ((f_X0_addLine_S 1 w_bA w_bB w_bZ w_bG w_bP w_bQ w_bC w_bM w_bL w_bD bgS1).2.2.2.2.2.2.1) ((f_X0_addLine_S 1 w_bA w_bB w_bZ w_bG w_bP w_bQ w_bC w_bM w_bL w_bD bgS1).2.2.2.2.2.2.2.1) ((f_X0_addLine_S 1 w_bA w_bB w_bZ w_bG w_bP w_bQ w_bC w_bM w_bL w_bD bgS1).2.2.2.2.2.2.2.2.1) ((f_X0_addLine_S 1 w_bA w_bB w_bZ w_bG w_bP w_bQ w_bC w_bM w_bL w_bD bgS1).2.2.2.2.2.2.2.2.2) bgS2).2.2.2.2.2.2.2.2.1) ((f_X0_addLine_S 2 ((f_X0_addLine_S 1 w_bA w_bB w_bZ w_bG w_bP w_bQ w_bC w_bM w_bL w_bD bgS1).1) ((f_X0_addLine_S 1 w_bA w_bB w_bZ w_bG w_bP w_bQ w_bC w_bM w_bL w_bD bgS1).2.1) ((f_X0_addLine_S 1 w_bA w_bB w_bZ w_bG w_bP w_bQ w_bC w_bM w_bL w_bD bgS1).2.2.1) ((f_X0_addLine_S 1 w_bA w_bB w_bZ w_bG w_bP w_bQ w_bC w_bM w_bL w_bD bgS1).2.2.2.1) ((f_X0_addLine_S 1 w_bA w_bB w_bZ w_bG w_bP w_bQ w_bC w_bM w_bL w_bD bgS1).2.2.2.2.1) ((f_X0_addLine_S 1 w_bA w_bB w_bZ w_bG w_bP w_bQ w_bC w_bM w_bL w_bD bgS1).2.2.2.2.2.1) ((f_X0_addLine_S 1 w_bA w_bB w_bZ w_bG w_bP w_bQ w_bC w_bM w_bL w_bD bgS1).2.2.2.2.2.2.1) ((f_X0_addLine_S 1 w_bA w_bB w_bZ w_bG w_bP w_bQ w_bC w_bM w_bL w_bD bgS1).2.2.2.2.2.2.2.1) ((f_X0_addLine_S 1 w_bA w_bB w_bZ w_bG w_bP w_bQ w_bC w_bM w_bL w_bD bgS1).2.2.2.2.2.2.2.2.1) ((f_X0_addLine_S 1 w_bA w_bB w_bZ w_bG w_bP w_bQ w_bC w_bM w_bL w_bD bgS1).2.2.2.2.2.2.2.2.2) bgS2).2.2.2.2.2.2.2.2.2)
noncomputable def k_X0_fillAtFirst_L12 (w_bA : Nat → Int32) (w_bB : Nat → Int32) (w_bZ : Nat → Int32) (w_bG : Nat → Int32) (w_bP : Nat → Int32) (w_bQ : Nat → Int32) (w_bC : Int32) (w_bM : Int32) (w_bL : Int32) (w_bD : Int32) : Prop := (k_X0_addLine_S 1 w_bA w_bB w_bZ w_bG w_bP w_bQ w_bC w_bM bgS1 ∧ (k_X0_addLine_S 2 ((f_X0_addLine_S 1 w_bA w_bB w_bZ w_bG w_bP w_bQ w_bC w_bM w_bL w_bD bgS1).1) ((f_X0_addLine_S 1 w_bA w_bB w_bZ w_bG w_bP w_bQ w_bC w_bM w_bL w_bD bgS1).2.1) ((f_X0_addLine_S 1 w_bA w_bB w_bZ w_bG w_bP w_bQ w_bC w_bM w_bL w_bD bgS1).2.2.1) ((f_X0_addLine_S 1 w_bA w_bB w_bZ w_bG w_bP w_bQ w_bC w_bM w_bL w_bD bgS1).2.2.2.1) ((f_X0_addLine_S 1 w_bA w_bB w_bZ w_bG w_bP w_bQ w_bC w_bM w_bL w_bD bgS1).2.2.2.2.1) ((f_X0_addLine_S 1 w_bA w_bB w_bZ w_bG w_bP w_bQ w_bC w_bM w_bL w_bD bgS1).2.2.2.2.2.1) ((f_X0_addLine_S 1 w_bA w_bB w_bZ w_bG w_bP w_bQ w_bC w_bM w_bL w_bD bgS1).2.2.2.2.2.2.1) ((f_X0_addLine_S 1 w_bA w_bB w_bZ w_bG w_bP w_bQ w_bC w_bM w_bL w_bD bgS1).2.2.2.2.2.2.2.1) bgS2 ∧ k_X0_fillAtFirst_L28  ((f_X0_addLine_S 2 ((f_X0_addLine_S 1 w_bA w_bB w_bZ w_bG w_bP w_bQ w_bC w_bM w_bL w_bD bgS1).1) ((f_X0_addLine_S 1 w_bA w_bB w_bZ w_bG w_bP w_bQ w_bC w_bM w_bL w_bD bgS1).2.1) ((f_X0_addLine_S 1 w_bA w_bB w_bZ w_bG w_bP w_bQ w_bC w_bM w_bL w_bD bgS1).2.2.1) ((f_X0_addLine_S 1 w_bA w_bB w_bZ w_bG w_bP w_bQ w_bC w_bM w_bL w_bD bgS1).2.2.2.1) ((f_X0_addLine_S 1 w_bA w_bB w_bZ w_bG w_bP w_bQ w_bC w_bM w_bL w_bD bgS1).2.2.2.2.1) ((f_X0_addLine_S 1 w_bA w_bB w_bZ w_bG w_bP w_bQ w_bC w_bM w_bL w_bD bgS1).2.2.2.2.2.1) ((f_X0_addLine_S 1 w_bA w_bB w_bZ w_bG w_bP w_bQ w_bC w_bM w_bL w_bD bgS1).2.2.2.2.2.2.1) ((f_X0_addLine_S 1 w_bA w_bB w_bZ w_bG w_bP w_bQ w_bC w_bM w_bL w_bD bgS1).2.2.2.2.2.2.2.1) ((f_X0_addLine_S 1 w_bA w_bB w_bZ w_bG w_bP w_bQ w_bC w_bM w_bL w_bD bgS1).2.2.2.2.2.2.2.2.1) ((f_X0_addLine_S 1 w_bA w_bB w_bZ w_bG w_bP w_bQ w_bC w_bM w_bL w_bD bgS1).2.2.2.2.2.2.2.2.2) bgS2).1) ((f_X0_addLine_S 2 ((f_X0_addLine_S 1 w_bA w_bB w_bZ w_bG w_bP w_bQ w_bC w_bM w_bL w_bD bgS1).1) ((f_X0_addLine_S 1 w_bA w_bB w_bZ w_bG w_bP w_bQ w_bC w_bM w_bL w_bD bgS1).2.1) ((f_X0_addLine_S 1 w_bA w_bB w_bZ w_bG w_bP w_bQ w_bC w_bM w_bL w_bD bgS1).2.2.1) ((f_X0_addLine_S 1 w_bA w_bB w_bZ w_bG w_bP w_bQ w_bC w_bM w_bL w_bD bgS1).2.2.2.1) ((f_X0_addLine_S 1 w_bA w_bB w_bZ w_bG w_bP w_bQ w_bC w_bM w_bL w_bD bgS1).2.2.2.2.1) ((f_X0_addLine_S 1 w_bA w_bB w_bZ w_bG w_bP w_bQ w_bC w_bM w_bL w_bD bgS1).2.2.2.2.2.1) ((f_X0_addLine_S 1 w_bA w_bB w_bZ w_bG w_bP w_bQ w_bC w_bM w_bL w_bD bgS1).2.2.2.2.2.2.1) ((f_X0_addLine_S 1 w_bA w_bB w_bZ w_bG w_bP w_bQ w_bC w_bM w_bL w_bD bgS1).2.2.2.2.2.2.2.1) ((f_X0_addLine_S 1 w_bA w_bB w_bZ w_bG w_bP w_bQ w_bC w_bM w_bL w_bD bgS1).2.2.2.2.2.2.2.2.1) ((f_X0_addLine_S 1 w_bA w_bB w_bZ w_bG w_bP w_bQ w_bC w_bM w_bL w_bD bgS1).2.2.2.2.2.2.2.2.2) bgS2).2.1) ((f_X0_addLine_S 2 ((f_X0_addLine_S 1 w_bA w_bB w_bZ w_bG w_bP w_bQ w_bC w_bM w_bL w_bD bgS1).1) ((f_X0_addLine_S 1 w_bA w_bB w_bZ w_bG w_bP w_bQ w_bC w_bM w_bL w_bD bgS1).2.1) ((f_X0_addLine_S 1 w_bA w_bB w_bZ w_bG w_bP w_bQ w_bC w_bM w_bL w_bD bgS1).2.2.1) ((f_X0_addLine_S 1 w_bA w_bB w_bZ w_bG w_bP w_bQ w_bC w_bM w_bL w_bD bgS1).2.2.2.1) ((f_X0_addLine_S 1 w_bA w_bB w_bZ w_bG w_bP w_bQ w_bC w_bM w_bL w_bD bgS1).2.2.2.2.1) ((f_X0_addLine_S 1 w_bA w_bB w_bZ w_bG w_bP w_bQ w_bC w_bM w_bL w_bD bgS1).2.2.2.2.2.1) ((f_X0_addLine_S 1 w_bA w_bB w_bZ w_bG w_bP w_bQ w_bC w_bM w_bL w_bD bgS1).2.2.2.2.2.2.1) ((f_X0_addLine_S 1 w_bA w_bB w_bZ w_bG w_bP w_bQ w_bC w_bM w_bL w_bD bgS1).2.2.2.2.2.2.2.1) ((f_X0_addLine_S 1 w_bA w_bB w_bZ w_bG w_bP w_bQ w_bC w_bM w_bL w_bD bgS1).2.2.2.2.2.2.2.2.1) ((f_X0_addLine_S 1 w_bA w_bB w_bZ w_bG w_bP w_bQ w_bC w_bM w_bL w_bD bgS1).2.2.2.2.2.2.2.2.2) bgS2).2.2.1) ((f_X0_addLine_S 2 ((f_X0_addLine_S 1 w_bA w_bB w_bZ w_bG w_bP w_bQ w_bC w_bM w_bL w_bD bgS1).1) ((f_X0_addLine_S 1 w_bA w_bB w_bZ w_bG w_bP w_bQ w_bC w_bM w_bL w_bD bgS1).2.1) ((f_X0_addLine_S 1 w_bA w_bB w_bZ w_bG w_bP w_bQ w_bC w_bM w_bL w_bD bgS1).2.2.1) ((f_X0_addLine_S 1 w_bA w_bB w_bZ w_bG w_bP w_bQ w_bC w_bM w_bL w_bD bgS1).2.2.2.1) ((f_X0_addLine_S 1 w_bA w_bB w_bZ w_bG w_bP w_bQ w_bC w_bM w_bL w_bD bgS1).2.2.2.2.1) ((f_X0_addLine_S 1 w_bA w_bB w_bZ w_bG w_bP w_bQ w_bC w_bM w_bL w_bD bgS1).2.2.2.2.2.1) ((f_X0_addLine_S 1 w_bA w_bB w_bZ w_bG w_bP w_bQ w_bC w_bM w_bL w_bD bgS1).2.2.2.2.2.2.1) ((f_X0_addLine_S 1 w_bA w_bB w_bZ w_bG w_bP w_bQ w_bC w_bM w_bL w_bD bgS1).2.2.2.2.2.2.2.1) ((f_X0_addLine_S 1 w_bA w_bB w_bZ w_bG w_bP w_bQ w_bC w_bM w_bL w_bD bgS1).2.2.2.2.2.2.2.2.1) ((f_X0_addLine_S 1 w_bA w_bB w_bZ w_bG w_bP w_bQ w_bC w_bM w_bL w_bD bgS1).2.2.2.2.2.2.2.2.2) bgS2).2.2.2.1) ((f_X0_addLine_S 2 ((f_X0_addLine_S 1 w_bA w_bB w_bZ w_bG w_bP w_bQ w_bC w_bM w_bL w_bD bgS1).1) ((f_X0_addLine_S 1 w_bA w_bB w_bZ w_bG w_bP w_bQ w_bC w_bM w_bL w_bD bgS1).2.1) ((f_X0_addLine_S 1 w_bA w_bB w_bZ w_bG w_bP w_bQ w_bC w_bM w_bL w_bD bgS1).2.2.1) ((f_X0_addLine_S 1 w_bA w_bB w_bZ w_bG w_bP w_bQ w_bC w_bM w_bL w_bD bgS1).2.2.2.1) ((f_X0_addLine_S 1 w_bA w_bB w_bZ w_bG w_bP w_bQ w_bC w_bM w_bL w_bD bgS1).2.2.2.2.1) ((f_X0_addLine_S 1 w_bA w_bB w_bZ w_bG w_bP w_bQ w_bC w_bM w_bL w_bD bgS1).2.2.2.2.2.1) ((f_X0_addLine_S 1 w_bA w_bB w_bZ w_bG w_bP w_bQ w_bC w_bM w_bL w_bD bgS1).2.2.2.2.2.2.1) ((f_X0_addLine_S 1 w_bA w_bB w_bZ w_bG w_bP w_bQ w_bC w_bM w_bL w_bD bgS1).2.2.2.2.2.2.2.1) ((f_X0_addLine_S 1 w_bA w_bB w_bZ w_bG w_bP w_bQ w_bC w_bM w_bL w_bD bgS1).2.2.2.2.2.2.2.2.1) ((f_X0_addLine_S 1 w_bA w_bB w_bZ w_bG w_bP w_bQ w_bC w_bM w_bL w_bD bgS1).2.2.2.2.2.2.2.2.2) bgS2).2.2.2.2.1) ((f_X0_addLine_S 2 ((f_X0_addLine_S 1 w_bA w_bB w_bZ w_bG w_bP w_bQ w_bC w_bM w_bL w_bD bgS1).1) ((f_X0_addLine_S 1 w_bA w_bB w_bZ w_bG w_bP w_bQ w_bC w_bM w_bL w_bD bgS1).2.1) ((f_X0_addLine_S 1 w_bA w_bB w_bZ w_bG w_bP w_bQ w_bC w_bM w_bL w_bD bgS1).2.2.1) ((f_X0_addLine_S 1 w_bA w_bB w_bZ w_bG w_bP w_bQ w_bC w_bM w_bL w_bD bgS1).2.2.2.1) ((f_X0_addLine_S 1 w_bA w_bB w_bZ w_bG w_bP w_bQ w_bC w_bM w_bL w_bD bgS1).2.2.2.2.1) ((f_X0_addLine_S 1 w_bA w_bB w_bZ w_bG w_bP w_bQ w_bC w_bM w_bL w_bD bgS1).2.2.2.2.2.1) ((f_X0_addLine_S 1 w_bA w_bB w_bZ w_bG w_bP w_bQ w_bC w_bM w_bL w_bD bgS1).2.2.2.2.2.2.1) ((f_X0_addLine_S 1 w_bA w_bB w_bZ w_bG w_bP w_bQ w_bC w_bM w_bL w_bD bgS1).2.2.2.2.2.2.2.1) ((f_X0_addLine_S 1 w_bA w_bB w_bZ w_bG w_bP w_bQ w_bC w_bM w_bL w_bD bgS1).2.2.2.2.2.2.2.2.1) ((f_X0_addLine_S 1 w_bA w_bB w_bZ w_bG w_bP w_bQ w_bC w_bM w_bL w_bD bgS1).2.2.2.2.2.2.2.2.2) bgS2).2.2.2.2.2.1) ((f_X0_addLine_S 2 ((f_X0_addLine_S 1 w_bA w_bB w_bZ w_bG w_bP w_bQ w_bC w_bM w_bL w_bD bgS1).1) ((f_X0_addLine_S 1 w_bA w_bB w_bZ w_bG w_bP w_bQ w_bC w_bM w_bL w_bD bgS1).2.1) ((f_X0_addLine_S 1 w_bA w_bB w_bZ w_bG w_bP w_bQ w_bC w_bM w_bL w_bD bgS1).2.2.1) ((f_X0_addLine_S 1 w_bA w_bB w_bZ w_bG w_bP w_bQ w_bC w_bM w_bL w_bD bgS1).2.2.2.1) ((f_X0_addLine_S 1 w_bA w_bB w_bZ w_bG w_bP w_bQ w_bC w_bM w_bL w_bD bgS1).2.2.2.2.1) ((f_X0_addLine_S 1 w_bA w_bB w_bZ w_bG w_bP w_bQ w_bC w_bM w_bL w_bD bgS1).2.2.2.2.2.1) ((f_X0_addLine_S 1 w_bA w_bB w_bZ w_bG w_bP w_bQ w_bC w_bM w_bL w_bD bgS1).2.2.2.2.2.2.1) ((f_X0_addLine_S 1 w_bA w_bB w_bZ w_bG w_bP w_bQ w_bC w_bM w_bL w_bD bgS1).2.2.2.2.2.2.2.1) ((f_X0_addLine_S 1 w_bA w_bB w_bZ w_bG w_bP w_bQ w_bC w_bM w_bL w_bD bgS1).2.2.2.2.2.2.2.2.1) ((f_X0_addLine_S 1 w_bA w_bB w_bZ w_bG w_bP w_bQ w_bC w_bM w_bL w_bD bgS1).2.2.2.2.2.2.2.2.2) bgS2).2.2.2.2.2.2.1) ((f_X0_addLine_S 2 ((f_X0_addLine_S 1 w_bA w_bB w_bZ w_bG w_bP w_bQ w_bC w_bM w_bL w_bD bgS1).1) ((f_X0_addLine_S 1 w_bA w_bB w_bZ w_bG w_bP w_bQ w_bC w_bM w_bL w_bD bgS1).2.1) ((f_X0_addLine_S 1 w_bA w_bB w_bZ w_bG w_bP w_bQ w_bC w_bM w_bL w_bD bgS1).2.2.1) ((f_X0_addLine_S 1 w_bA w_bB w_bZ w_bG w_bP w_bQ w_bC w_bM w_bL w_bD bgS1).2.2.2.1) ((f_X0_addLine_S 1 w_bA w_bB w_bZ w_bG w_bP w_bQ w_bC w_bM w_bL w_bD bgS1).2.2.2.2.1) ((f_X0_addLine_S 1 w_bA w_bB w_bZ w_bG w_bP w_bQ w_bC w_bM w_bL w_bD bgS1).2.2.2.2.2.1) ((f_X0_addLine_S 1 w_bA w_bB w_bZ w_bG w_bP w_bQ w_bC w_bM w_bL w_bD bgS1).2.2.2.2.2.2.1) ((f_X0_addLine_S 1 w_bA w_bB w_bZ w_bG w_bP w_bQ w_bC w_bM w_bL w_bD bgS1).2.2.2.2.2.2.2.1) ((f_X0_addLine_S 1 w_bA w_bB w_bZ w_bG w_bP w_bQ w_bC w_bM w_bL w_bD bgS1).2.2.2.2.2.2.2.2.1) ((f_X0_addLine_S 1 w_bA w_bB w_bZ w_bG w_bP w_bQ w_bC w_bM w_bL w_bD bgS1).2.2.2.2.2.2.2.2.2) bgS2).2.2.2.2.2.2.2.1) ((f_X0_addLine_S 2 ((f_X0_addLine_S 1 w_bA w_bB w_bZ w_bG w_bP w_bQ w_bC w_bM w_bL w_bD bgS1).1) ((f_X0_addLine_S 1 w_bA w_bB w_bZ w_bG w_bP w_bQ w_bC w_bM w_bL w_bD bgS1).2.1) ((f_X0_addLine_S 1 w_bA w_bB w_bZ w_bG w_bP w_bQ w_bC w_bM w_bL w_bD bgS1).2.2.1) ((f_X0_addLine_S 1 w_bA w_bB w_bZ w_bG w_bP w_bQ w_bC w_bM w_bL w_bD bgS1).2.2.2.1) ((f_X0_addLine_S 1 w_bA w_bB w_bZ w_bG w_bP w_bQ w_bC w_bM w_bL w_bD bgS1).2.2.2.2.1) ((f_X0_addLine_S 1 w_bA w_bB w_bZ w_bG w_bP w_bQ w_bC w_bM w_bL w_bD bgS1).2.2.2.2.2.1) ((f_X0_addLine_S 1 w_bA w_bB w_bZ w_bG w_bP w_bQ w_bC w_bM w_bL w_bD bgS1).2.2.2.2.2.2.1) ((f_X0_addLine_S 1 w_bA w_bB w_bZ w_bG w_bP w_bQ w_bC w_bM w_bL w_bD bgS1).2.2.2.2.2.2.2.1) ((f_X0_addLine_S 1 w_bA w_bB w_bZ w_bG w_bP w_bQ w_bC w_bM w_bL w_bD bgS1).2.2.2.2.2.2.2.2.1) ((f_X0_addLine_S 1 w_bA w_bB w_bZ w_bG w_bP w_bQ w_bC w_bM w_bL w_bD bgS1).2.2.2.2.2.2.2.2.2) bgS2).2.2.2.2.2.2.2.2.1) ((f_X0_addLine_S 2 ((f_X0_addLine_S 1 w_bA w_bB w_bZ w_bG w_bP w_bQ w_bC w_bM w_bL w_bD bgS1).1) ((f_X0_addLine_S 1 w_bA w_bB w_bZ w_bG w_bP w_bQ w_bC w_bM w_bL w_bD bgS1).2.1) ((f_X0_addLine_S 1 w_bA w_bB w_bZ w_bG w_bP w_bQ w_bC w_bM w_bL w_bD bgS1).2.2.1) ((f_X0_addLine_S 1 w_bA w_bB w_bZ w_bG w_bP w_bQ w_bC w_bM w_bL w_bD bgS1).2.2.2.1) ((f_X0_addLine_S 1 w_bA w_bB w_bZ w_bG w_bP w_bQ w_bC w_bM w_bL w_bD bgS1).2.2.2.2.1) ((f_X0_addLine_S 1 w_bA w_bB w_bZ w_bG w_bP w_bQ w_bC w_bM w_bL w_bD bgS1).2.2.2.2.2.1) ((f_X0_addLine_S 1 w_bA w_bB w_bZ w_bG w_bP w_bQ w_bC w_bM w_bL w_bD bgS1).2.2.2.2.2.2.1) ((f_X0_addLine_S 1 w_bA w_bB w_bZ w_bG w_bP w_bQ w_bC w_bM w_bL w_bD bgS1).2.2.2.2.2.2.2.1) ((f_X0_addLine_S 1 w_bA w_bB w_bZ w_bG w_bP w_bQ w_bC w_bM w_bL w_bD bgS1).2.2.2.2.2.2.2.2.1) ((f_X0_addLine_S 1 w_bA w_bB w_bZ w_bG w_bP w_bQ w_bC w_bM w_bL w_bD bgS1).2.2.2.2.2.2.2.2.2) bgS2).2.2.2.2.2.2.2.2.2)))
noncomputable def f_X0_fillAtFirst (bA : Nat → Int32) (bB : Nat → Int32) (bZ : Nat → Int32) (bG : Nat → Int32) (bP : Nat → Int32) (bQ : Nat → Int32) : (Nat → Int32) × (Nat → Int32) × (Nat → Int32) × (Nat → Int32) × (Nat → Int32) × (Nat → Int32) × Int32 × Int32 × Int32 × Int32 := f_X0_fillAtFirst_L12  ((f_X0_addLine_S 0 bA bB bZ bG ((f_X0_clear bP bQ).1) ((f_X0_clear bP bQ).2.1) ((f_X0_clear bP bQ).2.2.1) ((f_X0_clear bP bQ).2.2.2.1) ((f_X0_clear bP bQ).2.2.2.2.1) ((f_X0_clear bP bQ).2.2.2.2.2) bgS0).1) ((f_X0_addLine_S 0 bA bB bZ bG ((f_X0_clear bP bQ).1) ((f_X0_clear bP bQ).2.1) ((f_X0_clear bP bQ).2.2.1) ((f_X0_clear bP bQ).2.2.2.1) ((f_X0_clear bP bQ).2.2.2.2.1) ((f_X0_clear bP bQ).2.2.2.2.2) bgS0).2.1) ((f_X0_addLine_S 0 bA bB bZ bG ((f_X0_clear bP bQ).1) ((f_X0_clear bP bQ).2.1) ((f_X0_clear bP bQ).2.2.1) ((f_X0_clear bP bQ).2.2.2.1) ((f_X0_clear bP bQ).2.2.2.2.1) ((f_X0_clear bP bQ).2.2.2.2.2) bgS0).2.2.1) ((f_X0_addLine_S 0 bA bB bZ bG ((f_X0_clear bP bQ).1) ((f_X0_clear bP bQ).2.1) ((f_X0_clear bP bQ).2.2.1) ((f_X0_clear bP bQ).2.2.2.1) ((f_X0_clear bP bQ).2.2.2.2.1) ((f_X0_clear bP bQ).2.2.2.2.2) bgS0).2.2.2.1) ((f_X0_addLine_S 0 bA bB bZ bG ((f_X0_clear bP bQ).1) ((f_X0_clear bP bQ).2.1) ((f_X0_clear bP bQ).2.2.1) ((f_X0_clear bP bQ).2.2.2.1) ((f_X0_clear bP bQ).2.2.2.2.1) ((f_X0_clear bP bQ).2.2.2.2.2) bgS0).2.2.2.2.1) ((f_X0_addLine_S 0 bA bB bZ bG ((f_X0_clear bP bQ).1) ((f_X0_clear bP bQ).2.1) ((f_X0_clear bP bQ).2.2.1) ((f_X0_clear bP bQ).2.2.2.1) ((f_X0_clear bP bQ).2.2.2.2.1) ((f_X0_clear bP bQ).2.2.2.2.2) bgS0).2.2.2.2.2.1) ((f_X0_addLine_S 0 bA bB bZ bG ((f_X0_clear bP bQ).1) ((f_X0_clear bP bQ).2.1) ((f_X0_clear bP bQ).2.2.1) ((f_X0_clear bP bQ).2.2.2.1) ((f_X0_clear bP bQ).2.2.2.2.1) ((f_X0_clear bP bQ).2.2.2.2.2) bgS0).2.2.2.2.2.2.1) ((f_X0_addLine_S 0 bA bB bZ bG ((f_X0_clear bP bQ).1) ((f_X0_clear bP bQ).2.1) ((f_X0_clear bP bQ).2.2.1) ((f_X0_clear bP bQ).2.2.2.1) ((f_X0_clear bP bQ).2.2.2.2.1) ((f_X0_clear bP bQ).2.2.2.2.2) bgS0).2.2.2.2.2.2.2.1) ((f_X0_addLine_S 0 bA bB bZ bG ((f_X0_clear bP bQ).1) ((f_X0_clear bP bQ).2.1) ((f_X0_clear bP bQ).2.2.1) ((f_X0_clear bP bQ).2.2.2.1) ((f_X0_clear bP bQ).2.2.2.2.1) ((f_X0_clear bP bQ).2.2.2.2.2) bgS0).2.2.2.2.2.2.2.2.1) ((f_X0_addLine_S 0 bA bB bZ bG ((f_X0_clear bP bQ).1) ((f_X0_clear bP bQ).2.1) ((f_X0_clear bP bQ).2.2.1) ((f_X0_clear bP bQ).2.2.2.1) ((f_X0_clear bP bQ).2.2.2.2.1) ((f_X0_clear bP bQ).2.2.2.2.2) bgS0).2.2.2.2.2.2.2.2.2)
noncomputable def k_X0_fillAtFirst (bA : Nat → Int32) (bB : Nat → Int32) (bZ : Nat → Int32) (bG : Nat → Int32) (bP : Nat → Int32) (bQ : Nat → Int32) : Prop := (k_X0_clear bP bQ ∧ (k_X0_addLine_S 0 bA bB bZ bG ((f_X0_clear bP bQ).1) ((f_X0_clear bP bQ).2.1) ((f_X0_clear bP bQ).2.2.1) ((f_X0_clear bP bQ).2.2.2.1) bgS0 ∧ k_X0_fillAtFirst_L12  ((f_X0_addLine_S 0 bA bB bZ bG ((f_X0_clear bP bQ).1) ((f_X0_clear bP bQ).2.1) ((f_X0_clear bP bQ).2.2.1) ((f_X0_clear bP bQ).2.2.2.1) ((f_X0_clear bP bQ).2.2.2.2.1) ((f_X0_clear bP bQ).2.2.2.2.2) bgS0).1) ((f_X0_addLine_S 0 bA bB bZ bG ((f_X0_clear bP bQ).1) ((f_X0_clear bP bQ).2.1) ((f_X0_clear bP bQ).2.2.1) ((f_X0_clear bP bQ).2.2.2.1) ((f_X0_clear bP bQ).2.2.2.2.1) ((f_X0_clear bP bQ).2.2.2.2.2) bgS0).2.1) ((f_X0_addLine_S 0 bA bB bZ bG ((f_X0_clear bP bQ).1) ((f_X0_clear bP bQ).2.1) ((f_X0_clear bP bQ).2.2.1) ((f_X0_clear bP bQ).2.2.2.1) ((f_X0_clear bP bQ).2.2.2.2.1) ((f_X0_clear bP bQ).2.2.2.2.2) bgS0).2.2.1) ((f_X0_addLine_S 0 bA bB bZ bG ((f_X0_clear bP bQ).1) ((f_X0_clear bP bQ).2.1) ((f_X0_clear bP bQ).2.2.1) ((f_X0_clear bP bQ).2.2.2.1) ((f_X0_clear bP bQ).2.2.2.2.1) ((f_X0_clear bP bQ).2.2.2.2.2) bgS0).2.2.2.1) ((f_X0_addLine_S 0 bA bB bZ bG ((f_X0_clear bP bQ).1) ((f_X0_clear bP bQ).2.1) ((f_X0_clear bP bQ).2.2.1) ((f_X0_clear bP bQ).2.2.2.1) ((f_X0_clear bP bQ).2.2.2.2.1) ((f_X0_clear bP bQ).2.2.2.2.2) bgS0).2.2.2.2.1) ((f_X0_addLine_S 0 bA bB bZ bG ((f_X0_clear bP bQ).1) ((f_X0_clear bP bQ).2.1) ((f_X0_clear bP bQ).2.2.1) ((f_X0_clear bP bQ).2.2.2.1) ((f_X0_clear bP bQ).2.2.2.2.1) ((f_X0_clear bP bQ).2.2.2.2.2) bgS0).2.2.2.2.2.1) ((f_X0_addLine_S 0 bA bB bZ bG ((f_X0_clear bP bQ).1) ((f_X0_clear bP bQ).2.1) ((f_X0_clear bP bQ).2.2.1) ((f_X0_clear bP bQ).2.2.2.1) ((f_X0_clear bP bQ).2.2.2.2.1) ((f_X0_clear bP bQ).2.2.2.2.2) bgS0).2.2.2.2.2.2.1) ((f_X0_addLine_S 0 bA bB bZ bG ((f_X0_clear bP bQ).1) ((f_X0_clear bP bQ).2.1) ((f_X0_clear bP bQ).2.2.1) ((f_X0_clear bP bQ).2.2.2.1) ((f_X0_clear bP bQ).2.2.2.2.1) ((f_X0_clear bP bQ).2.2.2.2.2) bgS0).2.2.2.2.2.2.2.1) ((f_X0_addLine_S 0 bA bB bZ bG ((f_X0_clear bP bQ).1) ((f_X0_clear bP bQ).2.1) ((f_X0_clear bP bQ).2.2.1) ((f_X0_clear bP bQ).2.2.2.1) ((f_X0_clear bP bQ).2.2.2.2.1) ((f_X0_clear bP bQ).2.2.2.2.2) bgS0).2.2.2.2.2.2.2.2.1) ((f_X0_addLine_S 0 bA bB bZ bG ((f_X0_clear bP bQ).1) ((f_X0_clear bP bQ).2.1) ((f_X0_clear bP bQ).2.2.1) ((f_X0_clear bP bQ).2.2.2.1) ((f_X0_clear bP bQ).2.2.2.2.1) ((f_X0_clear bP bQ).2.2.2.2.2) bgS0).2.2.2.2.2.2.2.2.2)))
theorem hd_X0_fillAtFirst : yX0_fillAtFirst.cls ≠ "java/lang/invoke/MethodHandle" ∧ yX0_fillAtFirst.cls ≠ "java/lang/invoke/VarHandle" ∧ (parseMethodDescriptor yX0_fillAtFirst.desc).map (fun d => d.parameters.length) = some 0 := by decide +kernel
set_option maxHeartbeats 4000000 in
set_option maxRecDepth 100000 in
theorem c_X0_fillAtFirst (l : Launch) (G : BGT) (q_b q_bA q_bB q_bZ q_bG q_bP q_bQ : Nat) (bC : Int32) (bM : Int32) (bL : Int32) (bD : Int32) (bA : Nat → Int32) (bB : Nat → Int32) (bZ : Nat → Int32) (bG : Nat → Int32) (bP : Nat → Int32) (bQ : Nat → Int32) (hk : k_X0_fillAtFirst bA bB bZ bG bP bQ) : WR l yX0_fillAtFirst wsX0_fillAtFirst 3 G [oX0 q_b q_bA q_bB q_bZ q_bG q_bP q_bQ bC bM bL bD, aI G q_bA 18 bA, aI G q_bB 60 bB, aI G q_bZ 45 bZ, aI G q_bG 24 bG, aI G q_bP 3 bP, aI G q_bQ 3 bQ] [oX0 q_b q_bA q_bB q_bZ q_bG q_bP q_bQ ((f_X0_fillAtFirst bA bB bZ bG bP bQ).2.2.2.2.2.2.1) ((f_X0_fillAtFirst bA bB bZ bG bP bQ).2.2.2.2.2.2.2.1) ((f_X0_fillAtFirst bA bB bZ bG bP bQ).2.2.2.2.2.2.2.2.1) ((f_X0_fillAtFirst bA bB bZ bG bP bQ).2.2.2.2.2.2.2.2.2), aI G q_bA 18 ((f_X0_fillAtFirst bA bB bZ bG bP bQ).1), aI G q_bB 60 ((f_X0_fillAtFirst bA bB bZ bG bP bQ).2.1), aI G q_bZ 45 ((f_X0_fillAtFirst bA bB bZ bG bP bQ).2.2.1), aI G q_bG 24 ((f_X0_fillAtFirst bA bB bZ bG bP bQ).2.2.2.1), aI G q_bP 3 ((f_X0_fillAtFirst bA bB bZ bG bP bQ).2.2.2.2.1), aI G q_bQ 3 ((f_X0_fillAtFirst bA bB bZ bG bP bQ).2.2.2.2.2.1)] [.ref q_b] none := by
  refine WR.ofW (cc := cX0_fillAtFirst) (maxL := 1) (ret := none) (C := RX0) (by decide) rfl rfl (Nat.le_of_ble_eq_true rfl) ?_
  intro p e s m args below meth c Q ls A hx hb hml hts hown hP hD hS hA hB hl fi fv
  have hl : lv_has ls 1 [(0, .ref q_b)] := hl
  have t_0 := hts (.fieldLink RX0 52 "ParcelSplit$Book" "FIRST_CARRIER" "[I") (by decide +kernel)
  have t_1 := hts (.fieldLink RX0 59 "ParcelSplit$Book" "FIRST_BREAK" "[I") (by decide +kernel)
  have t_2 := hts (.fieldLink RX0 62 "ParcelSplit$Book" "FIRST_ZONES" "[I") (by decide +kernel)
  have T28 : ∀ (w_bA : Nat → Int32) (w_bB : Nat → Int32) (w_bZ : Nat → Int32) (w_bG : Nat → Int32) (w_bP : Nat → Int32) (w_bQ : Nat → Int32) (w_bC : Int32) (w_bM : Int32) (w_bL : Int32) (w_bD : Int32), k_X0_fillAtFirst_L28  w_bA w_bB w_bZ w_bG w_bP w_bQ w_bC w_bM w_bL w_bD → f_X0_fillAtFirst bA bB bZ bG bP bQ = f_X0_fillAtFirst_L28  w_bA w_bB w_bZ w_bG w_bP w_bQ w_bC w_bM w_bL w_bD → ∀ (H : Heap) (locs : List Loc), va_P (gD G) vwCl [oX0 q_b q_bA q_bB q_bZ q_bG q_bP q_bQ w_bC w_bM w_bL w_bD, aI G q_bA 18 w_bA, aI G q_bB 60 w_bB, aI G q_bZ 45 w_bZ, aI G q_bG 24 w_bG, aI G q_bP 3 w_bP, aI G q_bQ 3 w_bQ] H → va_D A [oX0 q_b q_bA q_bB q_bZ q_bG q_bP q_bQ w_bC w_bM w_bL w_bD, aI G q_bA 18 w_bA, aI G q_bB 60 w_bB, aI G q_bZ 45 w_bZ, aI G q_bG 24 w_bG, aI G q_bP 3 w_bP, aI G q_bQ 3 w_bQ] → va_S A s.heap H locs → ∀ (ls : Array Slot), lv_has ls 1 [] → W p l e (rm 3) s m args below meth c H locs 0 0 Q (F0 m 28 ls []) := by
    intro w_bA w_bB w_bZ w_bG w_bP w_bQ w_bC w_bM w_bL w_bD hk hv H locs hP hD hS ls hl
    rw [k_X0_fillAtFirst_L28] at hk
    have e9 : f_X0_fillAtFirst bA bB bZ bG bP bQ = (w_bA, w_bB, w_bZ, w_bG, w_bP, w_bQ, w_bC, w_bM, w_bL, w_bD) := by rw [hv, f_X0_fillAtFirst_L28]
    exact fv 28 _ _ _ rfl dX0_fillAtFirst_28 rfl (by rw [e9]; exact hP) (by rw [e9]; exact hD) hS
  have T12 : ∀ (w_bA : Nat → Int32) (w_bB : Nat → Int32) (w_bZ : Nat → Int32) (w_bG : Nat → Int32) (w_bP : Nat → Int32) (w_bQ : Nat → Int32) (w_bC : Int32) (w_bM : Int32) (w_bL : Int32) (w_bD : Int32), k_X0_fillAtFirst_L12  w_bA w_bB w_bZ w_bG w_bP w_bQ w_bC w_bM w_bL w_bD → f_X0_fillAtFirst bA bB bZ bG bP bQ = f_X0_fillAtFirst_L12  w_bA w_bB w_bZ w_bG w_bP w_bQ w_bC w_bM w_bL w_bD → ∀ (H : Heap) (locs : List Loc), va_P (gD G) vwCl [oX0 q_b q_bA q_bB q_bZ q_bG q_bP q_bQ w_bC w_bM w_bL w_bD, aI G q_bA 18 w_bA, aI G q_bB 60 w_bB, aI G q_bZ 45 w_bZ, aI G q_bG 24 w_bG, aI G q_bP 3 w_bP, aI G q_bQ 3 w_bQ] H → va_D A [oX0 q_b q_bA q_bB q_bZ q_bG q_bP q_bQ w_bC w_bM w_bL w_bD, aI G q_bA 18 w_bA, aI G q_bB 60 w_bB, aI G q_bZ 45 w_bZ, aI G q_bG 24 w_bG, aI G q_bP 3 w_bP, aI G q_bQ 3 w_bQ] → va_S A s.heap H locs → ∀ (ls : Array Slot), lv_has ls 1 [(0, .ref q_b)] → W p l e (rm 3) s m args below meth c H locs 0 0 Q (F0 m 12 ls []) := by
    intro w_bA w_bB w_bZ w_bG w_bP w_bQ w_bC w_bM w_bL w_bD hk hv H locs hP hD hS ls hl
    rw [k_X0_fillAtFirst_L12] at hk
    refine lv_aload_n hx hb dX0_fillAtFirst_12 rfl (lv_at hl 0 rfl) ?_
    refine lv_iconst (v := 1) hx hb dX0_fillAtFirst_13 (by decide) ?_
    refine va_gets hx hb (hB.2.2.1 1 _ rfl).1 hS hown t_1 (fun _ h9 => h9) dX0_fillAtFirst_14 ?_
    obtain ⟨o_3, hk⟩ := hk
    refine wr_V (ci := 0) (q0 := 0) (As := [.int 1, .ref (gS G 1)]) (rest := []) (wr := []) (wf := [oX0 q_b q_bA q_bB q_bZ q_bG q_bP q_bQ ((f_X0_addLine_S 1 w_bA w_bB w_bZ w_bG w_bP w_bQ w_bC w_bM w_bL w_bD bgS1).2.2.2.2.2.2.1) ((f_X0_addLine_S 1 w_bA w_bB w_bZ w_bG w_bP w_bQ w_bC w_bM w_bL w_bD bgS1).2.2.2.2.2.2.2.1) ((f_X0_addLine_S 1 w_bA w_bB w_bZ w_bG w_bP w_bQ w_bC w_bM w_bL w_bD bgS1).2.2.2.2.2.2.2.2.1) ((f_X0_addLine_S 1 w_bA w_bB w_bZ w_bG w_bP w_bQ w_bC w_bM w_bL w_bD bgS1).2.2.2.2.2.2.2.2.2), aI G q_bA 18 ((f_X0_addLine_S 1 w_bA w_bB w_bZ w_bG w_bP w_bQ w_bC w_bM w_bL w_bD bgS1).1), aI G q_bB 60 ((f_X0_addLine_S 1 w_bA w_bB w_bZ w_bG w_bP w_bQ w_bC w_bM w_bL w_bD bgS1).2.1), aI G q_bZ 45 ((f_X0_addLine_S 1 w_bA w_bB w_bZ w_bG w_bP w_bQ w_bC w_bM w_bL w_bD bgS1).2.2.1), aI G q_bG 24 ((f_X0_addLine_S 1 w_bA w_bB w_bZ w_bG w_bP w_bQ w_bC w_bM w_bL w_bD bgS1).2.2.2.1), aI G q_bP 3 ((f_X0_addLine_S 1 w_bA w_bB w_bZ w_bG w_bP w_bQ w_bC w_bM w_bL w_bD bgS1).2.2.2.2.1), aI G q_bQ 3 ((f_X0_addLine_S 1 w_bA w_bB w_bZ w_bG w_bP w_bQ w_bC w_bM w_bL w_bD bgS1).2.2.2.2.2.1)]) (c_X0_addLine_S l G 1 RX0 "FIRST_BREAK" bgS1 rfl (by decide) q_b q_bA q_bB q_bZ q_bG q_bP q_bQ w_bC w_bM w_bL w_bD w_bA w_bB w_bZ w_bG w_bP w_bQ 1 o_3) [0, 1, 2, 3, 4, 5, 6] [] [0, 1, 2, 3, 4, 5, 6] rfl rfl rfl (by decide) rfl rfl rfl gX0_fillAtFirst_X0_addLine ⟨_, rfl⟩ hd_X0_addLine rfl dX0_fillAtFirst_17 rfl rfl (Nat.le_of_ble_eq_true rfl) ⟨Nat.le_of_ble_eq_true rfl, Nat.le_of_ble_eq_true rfl⟩ ⟨Nat.le_refl 0, Nat.le_refl 0⟩ hx hb hml hown hts hB hD hS hA hP hl.1 (fun H locs hP hD hS => ?_)
    refine W.eq (g2 := F0 m 20 ls []) rfl ?_
    refine lv_aload_n hx hb dX0_fillAtFirst_20 rfl (lv_at hl 0 rfl) ?_
    refine lv_iconst (v := 2) hx hb dX0_fillAtFirst_21 (by decide) ?_
    refine va_gets hx hb (hB.2.2.1 2 _ rfl).1 hS hown t_2 (fun _ h9 => h9) dX0_fillAtFirst_22 ?_
    obtain ⟨o_4, hk⟩ := hk
    refine wr_V (ci := 0) (q0 := 0) (As := [.int 2, .ref (gS G 2)]) (rest := []) (wr := []) (wf := [oX0 q_b q_bA q_bB q_bZ q_bG q_bP q_bQ ((f_X0_addLine_S 2 ((f_X0_addLine_S 1 w_bA w_bB w_bZ w_bG w_bP w_bQ w_bC w_bM w_bL w_bD bgS1).1) ((f_X0_addLine_S 1 w_bA w_bB w_bZ w_bG w_bP w_bQ w_bC w_bM w_bL w_bD bgS1).2.1) ((f_X0_addLine_S 1 w_bA w_bB w_bZ w_bG w_bP w_bQ w_bC w_bM w_bL w_bD bgS1).2.2.1) ((f_X0_addLine_S 1 w_bA w_bB w_bZ w_bG w_bP w_bQ w_bC w_bM w_bL w_bD bgS1).2.2.2.1) ((f_X0_addLine_S 1 w_bA w_bB w_bZ w_bG w_bP w_bQ w_bC w_bM w_bL w_bD bgS1).2.2.2.2.1) ((f_X0_addLine_S 1 w_bA w_bB w_bZ w_bG w_bP w_bQ w_bC w_bM w_bL w_bD bgS1).2.2.2.2.2.1) ((f_X0_addLine_S 1 w_bA w_bB w_bZ w_bG w_bP w_bQ w_bC w_bM w_bL w_bD bgS1).2.2.2.2.2.2.1) ((f_X0_addLine_S 1 w_bA w_bB w_bZ w_bG w_bP w_bQ w_bC w_bM w_bL w_bD bgS1).2.2.2.2.2.2.2.1) ((f_X0_addLine_S 1 w_bA w_bB w_bZ w_bG w_bP w_bQ w_bC w_bM w_bL w_bD bgS1).2.2.2.2.2.2.2.2.1) ((f_X0_addLine_S 1 w_bA w_bB w_bZ w_bG w_bP w_bQ w_bC w_bM w_bL w_bD bgS1).2.2.2.2.2.2.2.2.2) bgS2).2.2.2.2.2.2.1) ((f_X0_addLine_S 2 ((f_X0_addLine_S 1 w_bA w_bB w_bZ w_bG w_bP w_bQ w_bC w_bM w_bL w_bD bgS1).1) ((f_X0_addLine_S 1 w_bA w_bB w_bZ w_bG w_bP w_bQ w_bC w_bM w_bL w_bD bgS1).2.1) ((f_X0_addLine_S 1 w_bA w_bB w_bZ w_bG w_bP w_bQ w_bC w_bM w_bL w_bD bgS1).2.2.1) ((f_X0_addLine_S 1 w_bA w_bB w_bZ w_bG w_bP w_bQ w_bC w_bM w_bL w_bD bgS1).2.2.2.1) ((f_X0_addLine_S 1 w_bA w_bB w_bZ w_bG w_bP w_bQ w_bC w_bM w_bL w_bD bgS1).2.2.2.2.1) ((f_X0_addLine_S 1 w_bA w_bB w_bZ w_bG w_bP w_bQ w_bC w_bM w_bL w_bD bgS1).2.2.2.2.2.1) ((f_X0_addLine_S 1 w_bA w_bB w_bZ w_bG w_bP w_bQ w_bC w_bM w_bL w_bD bgS1).2.2.2.2.2.2.1) ((f_X0_addLine_S 1 w_bA w_bB w_bZ w_bG w_bP w_bQ w_bC w_bM w_bL w_bD bgS1).2.2.2.2.2.2.2.1) ((f_X0_addLine_S 1 w_bA w_bB w_bZ w_bG w_bP w_bQ w_bC w_bM w_bL w_bD bgS1).2.2.2.2.2.2.2.2.1) ((f_X0_addLine_S 1 w_bA w_bB w_bZ w_bG w_bP w_bQ w_bC w_bM w_bL w_bD bgS1).2.2.2.2.2.2.2.2.2) bgS2).2.2.2.2.2.2.2.1) ((f_X0_addLine_S 2 ((f_X0_addLine_S 1 w_bA w_bB w_bZ w_bG w_bP w_bQ w_bC w_bM w_bL w_bD bgS1).1) ((f_X0_addLine_S 1 w_bA w_bB w_bZ w_bG w_bP w_bQ w_bC w_bM w_bL w_bD bgS1).2.1) ((f_X0_addLine_S 1 w_bA w_bB w_bZ w_bG w_bP w_bQ w_bC w_bM w_bL w_bD bgS1).2.2.1) ((f_X0_addLine_S 1 w_bA w_bB w_bZ w_bG w_bP w_bQ w_bC w_bM w_bL w_bD bgS1).2.2.2.1) ((f_X0_addLine_S 1 w_bA w_bB w_bZ w_bG w_bP w_bQ w_bC w_bM w_bL w_bD bgS1).2.2.2.2.1) ((f_X0_addLine_S 1 w_bA w_bB w_bZ w_bG w_bP w_bQ w_bC w_bM w_bL w_bD bgS1).2.2.2.2.2.1) ((f_X0_addLine_S 1 w_bA w_bB w_bZ w_bG w_bP w_bQ w_bC w_bM w_bL w_bD bgS1).2.2.2.2.2.2.1) ((f_X0_addLine_S 1 w_bA w_bB w_bZ w_bG w_bP w_bQ w_bC w_bM w_bL w_bD bgS1).2.2.2.2.2.2.2.1) ((f_X0_addLine_S 1 w_bA w_bB w_bZ w_bG w_bP w_bQ w_bC w_bM w_bL w_bD bgS1).2.2.2.2.2.2.2.2.1) ((f_X0_addLine_S 1 w_bA w_bB w_bZ w_bG w_bP w_bQ w_bC w_bM w_bL w_bD bgS1).2.2.2.2.2.2.2.2.2) bgS2).2.2.2.2.2.2.2.2.1) ((f_X0_addLine_S 2 ((f_X0_addLine_S 1 w_bA w_bB w_bZ w_bG w_bP w_bQ w_bC w_bM w_bL w_bD bgS1).1) ((f_X0_addLine_S 1 w_bA w_bB w_bZ w_bG w_bP w_bQ w_bC w_bM w_bL w_bD bgS1).2.1) ((f_X0_addLine_S 1 w_bA w_bB w_bZ w_bG w_bP w_bQ w_bC w_bM w_bL w_bD bgS1).2.2.1) ((f_X0_addLine_S 1 w_bA w_bB w_bZ w_bG w_bP w_bQ w_bC w_bM w_bL w_bD bgS1).2.2.2.1) ((f_X0_addLine_S 1 w_bA w_bB w_bZ w_bG w_bP w_bQ w_bC w_bM w_bL w_bD bgS1).2.2.2.2.1) ((f_X0_addLine_S 1 w_bA w_bB w_bZ w_bG w_bP w_bQ w_bC w_bM w_bL w_bD bgS1).2.2.2.2.2.1) ((f_X0_addLine_S 1 w_bA w_bB w_bZ w_bG w_bP w_bQ w_bC w_bM w_bL w_bD bgS1).2.2.2.2.2.2.1) ((f_X0_addLine_S 1 w_bA w_bB w_bZ w_bG w_bP w_bQ w_bC w_bM w_bL w_bD bgS1).2.2.2.2.2.2.2.1) ((f_X0_addLine_S 1 w_bA w_bB w_bZ w_bG w_bP w_bQ w_bC w_bM w_bL w_bD bgS1).2.2.2.2.2.2.2.2.1) ((f_X0_addLine_S 1 w_bA w_bB w_bZ w_bG w_bP w_bQ w_bC w_bM w_bL w_bD bgS1).2.2.2.2.2.2.2.2.2) bgS2).2.2.2.2.2.2.2.2.2), aI G q_bA 18 ((f_X0_addLine_S 2 ((f_X0_addLine_S 1 w_bA w_bB w_bZ w_bG w_bP w_bQ w_bC w_bM w_bL w_bD bgS1).1) ((f_X0_addLine_S 1 w_bA w_bB w_bZ w_bG w_bP w_bQ w_bC w_bM w_bL w_bD bgS1).2.1) ((f_X0_addLine_S 1 w_bA w_bB w_bZ w_bG w_bP w_bQ w_bC w_bM w_bL w_bD bgS1).2.2.1) ((f_X0_addLine_S 1 w_bA w_bB w_bZ w_bG w_bP w_bQ w_bC w_bM w_bL w_bD bgS1).2.2.2.1) ((f_X0_addLine_S 1 w_bA w_bB w_bZ w_bG w_bP w_bQ w_bC w_bM w_bL w_bD bgS1).2.2.2.2.1) ((f_X0_addLine_S 1 w_bA w_bB w_bZ w_bG w_bP w_bQ w_bC w_bM w_bL w_bD bgS1).2.2.2.2.2.1) ((f_X0_addLine_S 1 w_bA w_bB w_bZ w_bG w_bP w_bQ w_bC w_bM w_bL w_bD bgS1).2.2.2.2.2.2.1) ((f_X0_addLine_S 1 w_bA w_bB w_bZ w_bG w_bP w_bQ w_bC w_bM w_bL w_bD bgS1).2.2.2.2.2.2.2.1) ((f_X0_addLine_S 1 w_bA w_bB w_bZ w_bG w_bP w_bQ w_bC w_bM w_bL w_bD bgS1).2.2.2.2.2.2.2.2.1) ((f_X0_addLine_S 1 w_bA w_bB w_bZ w_bG w_bP w_bQ w_bC w_bM w_bL w_bD bgS1).2.2.2.2.2.2.2.2.2) bgS2).1), aI G q_bB 60 ((f_X0_addLine_S 2 ((f_X0_addLine_S 1 w_bA w_bB w_bZ w_bG w_bP w_bQ w_bC w_bM w_bL w_bD bgS1).1) ((f_X0_addLine_S 1 w_bA w_bB w_bZ w_bG w_bP w_bQ w_bC w_bM w_bL w_bD bgS1).2.1) ((f_X0_addLine_S 1 w_bA w_bB w_bZ w_bG w_bP w_bQ w_bC w_bM w_bL w_bD bgS1).2.2.1) ((f_X0_addLine_S 1 w_bA w_bB w_bZ w_bG w_bP w_bQ w_bC w_bM w_bL w_bD bgS1).2.2.2.1) ((f_X0_addLine_S 1 w_bA w_bB w_bZ w_bG w_bP w_bQ w_bC w_bM w_bL w_bD bgS1).2.2.2.2.1) ((f_X0_addLine_S 1 w_bA w_bB w_bZ w_bG w_bP w_bQ w_bC w_bM w_bL w_bD bgS1).2.2.2.2.2.1) ((f_X0_addLine_S 1 w_bA w_bB w_bZ w_bG w_bP w_bQ w_bC w_bM w_bL w_bD bgS1).2.2.2.2.2.2.1) ((f_X0_addLine_S 1 w_bA w_bB w_bZ w_bG w_bP w_bQ w_bC w_bM w_bL w_bD bgS1).2.2.2.2.2.2.2.1) ((f_X0_addLine_S 1 w_bA w_bB w_bZ w_bG w_bP w_bQ w_bC w_bM w_bL w_bD bgS1).2.2.2.2.2.2.2.2.1) ((f_X0_addLine_S 1 w_bA w_bB w_bZ w_bG w_bP w_bQ w_bC w_bM w_bL w_bD bgS1).2.2.2.2.2.2.2.2.2) bgS2).2.1), aI G q_bZ 45 ((f_X0_addLine_S 2 ((f_X0_addLine_S 1 w_bA w_bB w_bZ w_bG w_bP w_bQ w_bC w_bM w_bL w_bD bgS1).1) ((f_X0_addLine_S 1 w_bA w_bB w_bZ w_bG w_bP w_bQ w_bC w_bM w_bL w_bD bgS1).2.1) ((f_X0_addLine_S 1 w_bA w_bB w_bZ w_bG w_bP w_bQ w_bC w_bM w_bL w_bD bgS1).2.2.1) ((f_X0_addLine_S 1 w_bA w_bB w_bZ w_bG w_bP w_bQ w_bC w_bM w_bL w_bD bgS1).2.2.2.1) ((f_X0_addLine_S 1 w_bA w_bB w_bZ w_bG w_bP w_bQ w_bC w_bM w_bL w_bD bgS1).2.2.2.2.1) ((f_X0_addLine_S 1 w_bA w_bB w_bZ w_bG w_bP w_bQ w_bC w_bM w_bL w_bD bgS1).2.2.2.2.2.1) ((f_X0_addLine_S 1 w_bA w_bB w_bZ w_bG w_bP w_bQ w_bC w_bM w_bL w_bD bgS1).2.2.2.2.2.2.1) ((f_X0_addLine_S 1 w_bA w_bB w_bZ w_bG w_bP w_bQ w_bC w_bM w_bL w_bD bgS1).2.2.2.2.2.2.2.1) ((f_X0_addLine_S 1 w_bA w_bB w_bZ w_bG w_bP w_bQ w_bC w_bM w_bL w_bD bgS1).2.2.2.2.2.2.2.2.1) ((f_X0_addLine_S 1 w_bA w_bB w_bZ w_bG w_bP w_bQ w_bC w_bM w_bL w_bD bgS1).2.2.2.2.2.2.2.2.2) bgS2).2.2.1), aI G q_bG 24 ((f_X0_addLine_S 2 ((f_X0_addLine_S 1 w_bA w_bB w_bZ w_bG w_bP w_bQ w_bC w_bM w_bL w_bD bgS1).1) ((f_X0_addLine_S 1 w_bA w_bB w_bZ w_bG w_bP w_bQ w_bC w_bM w_bL w_bD bgS1).2.1) ((f_X0_addLine_S 1 w_bA w_bB w_bZ w_bG w_bP w_bQ w_bC w_bM w_bL w_bD bgS1).2.2.1) ((f_X0_addLine_S 1 w_bA w_bB w_bZ w_bG w_bP w_bQ w_bC w_bM w_bL w_bD bgS1).2.2.2.1) ((f_X0_addLine_S 1 w_bA w_bB w_bZ w_bG w_bP w_bQ w_bC w_bM w_bL w_bD bgS1).2.2.2.2.1) ((f_X0_addLine_S 1 w_bA w_bB w_bZ w_bG w_bP w_bQ w_bC w_bM w_bL w_bD bgS1).2.2.2.2.2.1) ((f_X0_addLine_S 1 w_bA w_bB w_bZ w_bG w_bP w_bQ w_bC w_bM w_bL w_bD bgS1).2.2.2.2.2.2.1) ((f_X0_addLine_S 1 w_bA w_bB w_bZ w_bG w_bP w_bQ w_bC w_bM w_bL w_bD bgS1).2.2.2.2.2.2.2.1) ((f_X0_addLine_S 1 w_bA w_bB w_bZ w_bG w_bP w_bQ w_bC w_bM w_bL w_bD bgS1).2.2.2.2.2.2.2.2.1) ((f_X0_addLine_S 1 w_bA w_bB w_bZ w_bG w_bP w_bQ w_bC w_bM w_bL w_bD bgS1).2.2.2.2.2.2.2.2.2) bgS2).2.2.2.1), aI G q_bP 3 ((f_X0_addLine_S 2 ((f_X0_addLine_S 1 w_bA w_bB w_bZ w_bG w_bP w_bQ w_bC w_bM w_bL w_bD bgS1).1) ((f_X0_addLine_S 1 w_bA w_bB w_bZ w_bG w_bP w_bQ w_bC w_bM w_bL w_bD bgS1).2.1) ((f_X0_addLine_S 1 w_bA w_bB w_bZ w_bG w_bP w_bQ w_bC w_bM w_bL w_bD bgS1).2.2.1) ((f_X0_addLine_S 1 w_bA w_bB w_bZ w_bG w_bP w_bQ w_bC w_bM w_bL w_bD bgS1).2.2.2.1) ((f_X0_addLine_S 1 w_bA w_bB w_bZ w_bG w_bP w_bQ w_bC w_bM w_bL w_bD bgS1).2.2.2.2.1) ((f_X0_addLine_S 1 w_bA w_bB w_bZ w_bG w_bP w_bQ w_bC w_bM w_bL w_bD bgS1).2.2.2.2.2.1) ((f_X0_addLine_S 1 w_bA w_bB w_bZ w_bG w_bP w_bQ w_bC w_bM w_bL w_bD bgS1).2.2.2.2.2.2.1) ((f_X0_addLine_S 1 w_bA w_bB w_bZ w_bG w_bP w_bQ w_bC w_bM w_bL w_bD bgS1).2.2.2.2.2.2.2.1) ((f_X0_addLine_S 1 w_bA w_bB w_bZ w_bG w_bP w_bQ w_bC w_bM w_bL w_bD bgS1).2.2.2.2.2.2.2.2.1) ((f_X0_addLine_S 1 w_bA w_bB w_bZ w_bG w_bP w_bQ w_bC w_bM w_bL w_bD bgS1).2.2.2.2.2.2.2.2.2) bgS2).2.2.2.2.1), aI G q_bQ 3 ((f_X0_addLine_S 2 ((f_X0_addLine_S 1 w_bA w_bB w_bZ w_bG w_bP w_bQ w_bC w_bM w_bL w_bD bgS1).1) ((f_X0_addLine_S 1 w_bA w_bB w_bZ w_bG w_bP w_bQ w_bC w_bM w_bL w_bD bgS1).2.1) ((f_X0_addLine_S 1 w_bA w_bB w_bZ w_bG w_bP w_bQ w_bC w_bM w_bL w_bD bgS1).2.2.1) ((f_X0_addLine_S 1 w_bA w_bB w_bZ w_bG w_bP w_bQ w_bC w_bM w_bL w_bD bgS1).2.2.2.1) ((f_X0_addLine_S 1 w_bA w_bB w_bZ w_bG w_bP w_bQ w_bC w_bM w_bL w_bD bgS1).2.2.2.2.1) ((f_X0_addLine_S 1 w_bA w_bB w_bZ w_bG w_bP w_bQ w_bC w_bM w_bL w_bD bgS1).2.2.2.2.2.1) ((f_X0_addLine_S 1 w_bA w_bB w_bZ w_bG w_bP w_bQ w_bC w_bM w_bL w_bD bgS1).2.2.2.2.2.2.1) ((f_X0_addLine_S 1 w_bA w_bB w_bZ w_bG w_bP w_bQ w_bC w_bM w_bL w_bD bgS1).2.2.2.2.2.2.2.1) ((f_X0_addLine_S 1 w_bA w_bB w_bZ w_bG w_bP w_bQ w_bC w_bM w_bL w_bD bgS1).2.2.2.2.2.2.2.2.1) ((f_X0_addLine_S 1 w_bA w_bB w_bZ w_bG w_bP w_bQ w_bC w_bM w_bL w_bD bgS1).2.2.2.2.2.2.2.2.2) bgS2).2.2.2.2.2.1)]) (c_X0_addLine_S l G 2 RX0 "FIRST_ZONES" bgS2 rfl (by decide) q_b q_bA q_bB q_bZ q_bG q_bP q_bQ ((f_X0_addLine_S 1 w_bA w_bB w_bZ w_bG w_bP w_bQ w_bC w_bM w_bL w_bD bgS1).2.2.2.2.2.2.1) ((f_X0_addLine_S 1 w_bA w_bB w_bZ w_bG w_bP w_bQ w_bC w_bM w_bL w_bD bgS1).2.2.2.2.2.2.2.1) ((f_X0_addLine_S 1 w_bA w_bB w_bZ w_bG w_bP w_bQ w_bC w_bM w_bL w_bD bgS1).2.2.2.2.2.2.2.2.1) ((f_X0_addLine_S 1 w_bA w_bB w_bZ w_bG w_bP w_bQ w_bC w_bM w_bL w_bD bgS1).2.2.2.2.2.2.2.2.2) ((f_X0_addLine_S 1 w_bA w_bB w_bZ w_bG w_bP w_bQ w_bC w_bM w_bL w_bD bgS1).1) ((f_X0_addLine_S 1 w_bA w_bB w_bZ w_bG w_bP w_bQ w_bC w_bM w_bL w_bD bgS1).2.1) ((f_X0_addLine_S 1 w_bA w_bB w_bZ w_bG w_bP w_bQ w_bC w_bM w_bL w_bD bgS1).2.2.1) ((f_X0_addLine_S 1 w_bA w_bB w_bZ w_bG w_bP w_bQ w_bC w_bM w_bL w_bD bgS1).2.2.2.1) ((f_X0_addLine_S 1 w_bA w_bB w_bZ w_bG w_bP w_bQ w_bC w_bM w_bL w_bD bgS1).2.2.2.2.1) ((f_X0_addLine_S 1 w_bA w_bB w_bZ w_bG w_bP w_bQ w_bC w_bM w_bL w_bD bgS1).2.2.2.2.2.1) 2 o_4) [0, 1, 2, 3, 4, 5, 6] [] [0, 1, 2, 3, 4, 5, 6] rfl rfl rfl (by decide) rfl rfl rfl gX0_fillAtFirst_X0_addLine ⟨_, rfl⟩ hd_X0_addLine rfl dX0_fillAtFirst_25 rfl rfl (Nat.le_of_ble_eq_true rfl) ⟨Nat.le_of_ble_eq_true rfl, Nat.le_of_ble_eq_true rfl⟩ ⟨Nat.le_refl 0, Nat.le_refl 0⟩ hx hb hml hown hts hB hD hS hA hP hl.1 (fun H locs hP hD hS => ?_)
    refine W.eq (g2 := F0 m 28 ls []) rfl ?_
    exact T28 ((f_X0_addLine_S 2 ((f_X0_addLine_S 1 w_bA w_bB w_bZ w_bG w_bP w_bQ w_bC w_bM w_bL w_bD bgS1).1) ((f_X0_addLine_S 1 w_bA w_bB w_bZ w_bG w_bP w_bQ w_bC w_bM w_bL w_bD bgS1).2.1) ((f_X0_addLine_S 1 w_bA w_bB w_bZ w_bG w_bP w_bQ w_bC w_bM w_bL w_bD bgS1).2.2.1) ((f_X0_addLine_S 1 w_bA w_bB w_bZ w_bG w_bP w_bQ w_bC w_bM w_bL w_bD bgS1).2.2.2.1) ((f_X0_addLine_S 1 w_bA w_bB w_bZ w_bG w_bP w_bQ w_bC w_bM w_bL w_bD bgS1).2.2.2.2.1) ((f_X0_addLine_S 1 w_bA w_bB w_bZ w_bG w_bP w_bQ w_bC w_bM w_bL w_bD bgS1).2.2.2.2.2.1) ((f_X0_addLine_S 1 w_bA w_bB w_bZ w_bG w_bP w_bQ w_bC w_bM w_bL w_bD bgS1).2.2.2.2.2.2.1) ((f_X0_addLine_S 1 w_bA w_bB w_bZ w_bG w_bP w_bQ w_bC w_bM w_bL w_bD bgS1).2.2.2.2.2.2.2.1) ((f_X0_addLine_S 1 w_bA w_bB w_bZ w_bG w_bP w_bQ w_bC w_bM w_bL w_bD bgS1).2.2.2.2.2.2.2.2.1) ((f_X0_addLine_S 1 w_bA w_bB w_bZ w_bG w_bP w_bQ w_bC w_bM w_bL w_bD bgS1).2.2.2.2.2.2.2.2.2) bgS2).1) ((f_X0_addLine_S 2 ((f_X0_addLine_S 1 w_bA w_bB w_bZ w_bG w_bP w_bQ w_bC w_bM w_bL w_bD bgS1).1) ((f_X0_addLine_S 1 w_bA w_bB w_bZ w_bG w_bP w_bQ w_bC w_bM w_bL w_bD bgS1).2.1) ((f_X0_addLine_S 1 w_bA w_bB w_bZ w_bG w_bP w_bQ w_bC w_bM w_bL w_bD bgS1).2.2.1) ((f_X0_addLine_S 1 w_bA w_bB w_bZ w_bG w_bP w_bQ w_bC w_bM w_bL w_bD bgS1).2.2.2.1) ((f_X0_addLine_S 1 w_bA w_bB w_bZ w_bG w_bP w_bQ w_bC w_bM w_bL w_bD bgS1).2.2.2.2.1) ((f_X0_addLine_S 1 w_bA w_bB w_bZ w_bG w_bP w_bQ w_bC w_bM w_bL w_bD bgS1).2.2.2.2.2.1) ((f_X0_addLine_S 1 w_bA w_bB w_bZ w_bG w_bP w_bQ w_bC w_bM w_bL w_bD bgS1).2.2.2.2.2.2.1) ((f_X0_addLine_S 1 w_bA w_bB w_bZ w_bG w_bP w_bQ w_bC w_bM w_bL w_bD bgS1).2.2.2.2.2.2.2.1) ((f_X0_addLine_S 1 w_bA w_bB w_bZ w_bG w_bP w_bQ w_bC w_bM w_bL w_bD bgS1).2.2.2.2.2.2.2.2.1) ((f_X0_addLine_S 1 w_bA w_bB w_bZ w_bG w_bP w_bQ w_bC w_bM w_bL w_bD bgS1).2.2.2.2.2.2.2.2.2) bgS2).2.1) ((f_X0_addLine_S 2 ((f_X0_addLine_S 1 w_bA w_bB w_bZ w_bG w_bP w_bQ w_bC w_bM w_bL w_bD bgS1).1) ((f_X0_addLine_S 1 w_bA w_bB w_bZ w_bG w_bP w_bQ w_bC w_bM w_bL w_bD bgS1).2.1) ((f_X0_addLine_S 1 w_bA w_bB w_bZ w_bG w_bP w_bQ w_bC w_bM w_bL w_bD bgS1).2.2.1) ((f_X0_addLine_S 1 w_bA w_bB w_bZ w_bG w_bP w_bQ w_bC w_bM w_bL w_bD bgS1).2.2.2.1) ((f_X0_addLine_S 1 w_bA w_bB w_bZ w_bG w_bP w_bQ w_bC w_bM w_bL w_bD bgS1).2.2.2.2.1) ((f_X0_addLine_S 1 w_bA w_bB w_bZ w_bG w_bP w_bQ w_bC w_bM w_bL w_bD bgS1).2.2.2.2.2.1) ((f_X0_addLine_S 1 w_bA w_bB w_bZ w_bG w_bP w_bQ w_bC w_bM w_bL w_bD bgS1).2.2.2.2.2.2.1) ((f_X0_addLine_S 1 w_bA w_bB w_bZ w_bG w_bP w_bQ w_bC w_bM w_bL w_bD bgS1).2.2.2.2.2.2.2.1) ((f_X0_addLine_S 1 w_bA w_bB w_bZ w_bG w_bP w_bQ w_bC w_bM w_bL w_bD bgS1).2.2.2.2.2.2.2.2.1) ((f_X0_addLine_S 1 w_bA w_bB w_bZ w_bG w_bP w_bQ w_bC w_bM w_bL w_bD bgS1).2.2.2.2.2.2.2.2.2) bgS2).2.2.1) ((f_X0_addLine_S 2 ((f_X0_addLine_S 1 w_bA w_bB w_bZ w_bG w_bP w_bQ w_bC w_bM w_bL w_bD bgS1).1) ((f_X0_addLine_S 1 w_bA w_bB w_bZ w_bG w_bP w_bQ w_bC w_bM w_bL w_bD bgS1).2.1) ((f_X0_addLine_S 1 w_bA w_bB w_bZ w_bG w_bP w_bQ w_bC w_bM w_bL w_bD bgS1).2.2.1) ((f_X0_addLine_S 1 w_bA w_bB w_bZ w_bG w_bP w_bQ w_bC w_bM w_bL w_bD bgS1).2.2.2.1) ((f_X0_addLine_S 1 w_bA w_bB w_bZ w_bG w_bP w_bQ w_bC w_bM w_bL w_bD bgS1).2.2.2.2.1) ((f_X0_addLine_S 1 w_bA w_bB w_bZ w_bG w_bP w_bQ w_bC w_bM w_bL w_bD bgS1).2.2.2.2.2.1) ((f_X0_addLine_S 1 w_bA w_bB w_bZ w_bG w_bP w_bQ w_bC w_bM w_bL w_bD bgS1).2.2.2.2.2.2.1) ((f_X0_addLine_S 1 w_bA w_bB w_bZ w_bG w_bP w_bQ w_bC w_bM w_bL w_bD bgS1).2.2.2.2.2.2.2.1) ((f_X0_addLine_S 1 w_bA w_bB w_bZ w_bG w_bP w_bQ w_bC w_bM w_bL w_bD bgS1).2.2.2.2.2.2.2.2.1) ((f_X0_addLine_S 1 w_bA w_bB w_bZ w_bG w_bP w_bQ w_bC w_bM w_bL w_bD bgS1).2.2.2.2.2.2.2.2.2) bgS2).2.2.2.1) ((f_X0_addLine_S 2 ((f_X0_addLine_S 1 w_bA w_bB w_bZ w_bG w_bP w_bQ w_bC w_bM w_bL w_bD bgS1).1) ((f_X0_addLine_S 1 w_bA w_bB w_bZ w_bG w_bP w_bQ w_bC w_bM w_bL w_bD bgS1).2.1) ((f_X0_addLine_S 1 w_bA w_bB w_bZ w_bG w_bP w_bQ w_bC w_bM w_bL w_bD bgS1).2.2.1) ((f_X0_addLine_S 1 w_bA w_bB w_bZ w_bG w_bP w_bQ w_bC w_bM w_bL w_bD bgS1).2.2.2.1) ((f_X0_addLine_S 1 w_bA w_bB w_bZ w_bG w_bP w_bQ w_bC w_bM w_bL w_bD bgS1).2.2.2.2.1) ((f_X0_addLine_S 1 w_bA w_bB w_bZ w_bG w_bP w_bQ w_bC w_bM w_bL w_bD bgS1).2.2.2.2.2.1) ((f_X0_addLine_S 1 w_bA w_bB w_bZ w_bG w_bP w_bQ w_bC w_bM w_bL w_bD bgS1).2.2.2.2.2.2.1) ((f_X0_addLine_S 1 w_bA w_bB w_bZ w_bG w_bP w_bQ w_bC w_bM w_bL w_bD bgS1).2.2.2.2.2.2.2.1) ((f_X0_addLine_S 1 w_bA w_bB w_bZ w_bG w_bP w_bQ w_bC w_bM w_bL w_bD bgS1).2.2.2.2.2.2.2.2.1) ((f_X0_addLine_S 1 w_bA w_bB w_bZ w_bG w_bP w_bQ w_bC w_bM w_bL w_bD bgS1).2.2.2.2.2.2.2.2.2) bgS2).2.2.2.2.1) ((f_X0_addLine_S 2 ((f_X0_addLine_S 1 w_bA w_bB w_bZ w_bG w_bP w_bQ w_bC w_bM w_bL w_bD bgS1).1) ((f_X0_addLine_S 1 w_bA w_bB w_bZ w_bG w_bP w_bQ w_bC w_bM w_bL w_bD bgS1).2.1) ((f_X0_addLine_S 1 w_bA w_bB w_bZ w_bG w_bP w_bQ w_bC w_bM w_bL w_bD bgS1).2.2.1) ((f_X0_addLine_S 1 w_bA w_bB w_bZ w_bG w_bP w_bQ w_bC w_bM w_bL w_bD bgS1).2.2.2.1) ((f_X0_addLine_S 1 w_bA w_bB w_bZ w_bG w_bP w_bQ w_bC w_bM w_bL w_bD bgS1).2.2.2.2.1) ((f_X0_addLine_S 1 w_bA w_bB w_bZ w_bG w_bP w_bQ w_bC w_bM w_bL w_bD bgS1).2.2.2.2.2.1) ((f_X0_addLine_S 1 w_bA w_bB w_bZ w_bG w_bP w_bQ w_bC w_bM w_bL w_bD bgS1).2.2.2.2.2.2.1) ((f_X0_addLine_S 1 w_bA w_bB w_bZ w_bG w_bP w_bQ w_bC w_bM w_bL w_bD bgS1).2.2.2.2.2.2.2.1) ((f_X0_addLine_S 1 w_bA w_bB w_bZ w_bG w_bP w_bQ w_bC w_bM w_bL w_bD bgS1).2.2.2.2.2.2.2.2.1) ((f_X0_addLine_S 1 w_bA w_bB w_bZ w_bG w_bP w_bQ w_bC w_bM w_bL w_bD bgS1).2.2.2.2.2.2.2.2.2) bgS2).2.2.2.2.2.1) ((f_X0_addLine_S 2 ((f_X0_addLine_S 1 w_bA w_bB w_bZ w_bG w_bP w_bQ w_bC w_bM w_bL w_bD bgS1).1) ((f_X0_addLine_S 1 w_bA w_bB w_bZ w_bG w_bP w_bQ w_bC w_bM w_bL w_bD bgS1).2.1) ((f_X0_addLine_S 1 w_bA w_bB w_bZ w_bG w_bP w_bQ w_bC w_bM w_bL w_bD bgS1).2.2.1) ((f_X0_addLine_S 1 w_bA w_bB w_bZ w_bG w_bP w_bQ w_bC w_bM w_bL w_bD bgS1).2.2.2.1) ((f_X0_addLine_S 1 w_bA w_bB w_bZ w_bG w_bP w_bQ w_bC w_bM w_bL w_bD bgS1).2.2.2.2.1) ((f_X0_addLine_S 1 w_bA w_bB w_bZ w_bG w_bP w_bQ w_bC w_bM w_bL w_bD bgS1).2.2.2.2.2.1) ((f_X0_addLine_S 1 w_bA w_bB w_bZ w_bG w_bP w_bQ w_bC w_bM w_bL w_bD bgS1).2.2.2.2.2.2.1) ((f_X0_addLine_S 1 w_bA w_bB w_bZ w_bG w_bP w_bQ w_bC w_bM w_bL w_bD bgS1).2.2.2.2.2.2.2.1) ((f_X0_addLine_S 1 w_bA w_bB w_bZ w_bG w_bP w_bQ w_bC w_bM w_bL w_bD bgS1).2.2.2.2.2.2.2.2.1) ((f_X0_addLine_S 1 w_bA w_bB w_bZ w_bG w_bP w_bQ w_bC w_bM w_bL w_bD bgS1).2.2.2.2.2.2.2.2.2) bgS2).2.2.2.2.2.2.1) ((f_X0_addLine_S 2 ((f_X0_addLine_S 1 w_bA w_bB w_bZ w_bG w_bP w_bQ w_bC w_bM w_bL w_bD bgS1).1) ((f_X0_addLine_S 1 w_bA w_bB w_bZ w_bG w_bP w_bQ w_bC w_bM w_bL w_bD bgS1).2.1) ((f_X0_addLine_S 1 w_bA w_bB w_bZ w_bG w_bP w_bQ w_bC w_bM w_bL w_bD bgS1).2.2.1) ((f_X0_addLine_S 1 w_bA w_bB w_bZ w_bG w_bP w_bQ w_bC w_bM w_bL w_bD bgS1).2.2.2.1) ((f_X0_addLine_S 1 w_bA w_bB w_bZ w_bG w_bP w_bQ w_bC w_bM w_bL w_bD bgS1).2.2.2.2.1) ((f_X0_addLine_S 1 w_bA w_bB w_bZ w_bG w_bP w_bQ w_bC w_bM w_bL w_bD bgS1).2.2.2.2.2.1) ((f_X0_addLine_S 1 w_bA w_bB w_bZ w_bG w_bP w_bQ w_bC w_bM w_bL w_bD bgS1).2.2.2.2.2.2.1) ((f_X0_addLine_S 1 w_bA w_bB w_bZ w_bG w_bP w_bQ w_bC w_bM w_bL w_bD bgS1).2.2.2.2.2.2.2.1) ((f_X0_addLine_S 1 w_bA w_bB w_bZ w_bG w_bP w_bQ w_bC w_bM w_bL w_bD bgS1).2.2.2.2.2.2.2.2.1) ((f_X0_addLine_S 1 w_bA w_bB w_bZ w_bG w_bP w_bQ w_bC w_bM w_bL w_bD bgS1).2.2.2.2.2.2.2.2.2) bgS2).2.2.2.2.2.2.2.1) ((f_X0_addLine_S 2 ((f_X0_addLine_S 1 w_bA w_bB w_bZ w_bG w_bP w_bQ w_bC w_bM w_bL w_bD bgS1).1) ((f_X0_addLine_S 1 w_bA w_bB w_bZ w_bG w_bP w_bQ w_bC w_bM w_bL w_bD bgS1).2.1) ((f_X0_addLine_S 1 w_bA w_bB w_bZ w_bG w_bP w_bQ w_bC w_bM w_bL w_bD bgS1).2.2.1) ((f_X0_addLine_S 1 w_bA w_bB w_bZ w_bG w_bP w_bQ w_bC w_bM w_bL w_bD bgS1).2.2.2.1) ((f_X0_addLine_S 1 w_bA w_bB w_bZ w_bG w_bP w_bQ w_bC w_bM w_bL w_bD bgS1).2.2.2.2.1) ((f_X0_addLine_S 1 w_bA w_bB w_bZ w_bG w_bP w_bQ w_bC w_bM w_bL w_bD bgS1).2.2.2.2.2.1) ((f_X0_addLine_S 1 w_bA w_bB w_bZ w_bG w_bP w_bQ w_bC w_bM w_bL w_bD bgS1).2.2.2.2.2.2.1) ((f_X0_addLine_S 1 w_bA w_bB w_bZ w_bG w_bP w_bQ w_bC w_bM w_bL w_bD bgS1).2.2.2.2.2.2.2.1) ((f_X0_addLine_S 1 w_bA w_bB w_bZ w_bG w_bP w_bQ w_bC w_bM w_bL w_bD bgS1).2.2.2.2.2.2.2.2.1) ((f_X0_addLine_S 1 w_bA w_bB w_bZ w_bG w_bP w_bQ w_bC w_bM w_bL w_bD bgS1).2.2.2.2.2.2.2.2.2) bgS2).2.2.2.2.2.2.2.2.1) ((f_X0_addLine_S 2 ((f_X0_addLine_S 1 w_bA w_bB w_bZ w_bG w_bP w_bQ w_bC w_bM w_bL w_bD bgS1).1) ((f_X0_addLine_S 1 w_bA w_bB w_bZ w_bG w_bP w_bQ w_bC w_bM w_bL w_bD bgS1).2.1) ((f_X0_addLine_S 1 w_bA w_bB w_bZ w_bG w_bP w_bQ w_bC w_bM w_bL w_bD bgS1).2.2.1) ((f_X0_addLine_S 1 w_bA w_bB w_bZ w_bG w_bP w_bQ w_bC w_bM w_bL w_bD bgS1).2.2.2.1) ((f_X0_addLine_S 1 w_bA w_bB w_bZ w_bG w_bP w_bQ w_bC w_bM w_bL w_bD bgS1).2.2.2.2.1) ((f_X0_addLine_S 1 w_bA w_bB w_bZ w_bG w_bP w_bQ w_bC w_bM w_bL w_bD bgS1).2.2.2.2.2.1) ((f_X0_addLine_S 1 w_bA w_bB w_bZ w_bG w_bP w_bQ w_bC w_bM w_bL w_bD bgS1).2.2.2.2.2.2.1) ((f_X0_addLine_S 1 w_bA w_bB w_bZ w_bG w_bP w_bQ w_bC w_bM w_bL w_bD bgS1).2.2.2.2.2.2.2.1) ((f_X0_addLine_S 1 w_bA w_bB w_bZ w_bG w_bP w_bQ w_bC w_bM w_bL w_bD bgS1).2.2.2.2.2.2.2.2.1) ((f_X0_addLine_S 1 w_bA w_bB w_bZ w_bG w_bP w_bQ w_bC w_bM w_bL w_bD bgS1).2.2.2.2.2.2.2.2.2) bgS2).2.2.2.2.2.2.2.2.2) hk (hv.trans (by rw [f_X0_fillAtFirst_L12])) _ _ hP hD hS ls (lv_sub hl [] rfl)
  rw [k_X0_fillAtFirst] at hk
  refine lv_aload_n hx hb dX0_fillAtFirst_0 rfl (lv_at hl 0 rfl) ?_
  obtain ⟨o_1, hk⟩ := hk
  refine wr_V (ci := 0) (q0 := 0) (As := []) (rest := []) (wr := [aI G q_bA 18 bA, aI G q_bB 60 bB, aI G q_bZ 45 bZ, aI G q_bG 24 bG]) (wf := [oX0 q_b q_bA q_bB q_bZ q_bG q_bP q_bQ ((f_X0_clear bP bQ).2.2.1) ((f_X0_clear bP bQ).2.2.2.1) ((f_X0_clear bP bQ).2.2.2.2.1) ((f_X0_clear bP bQ).2.2.2.2.2), aI G q_bA 18 bA, aI G q_bB 60 bB, aI G q_bZ 45 bZ, aI G q_bG 24 bG, aI G q_bP 3 ((f_X0_clear bP bQ).1), aI G q_bQ 3 ((f_X0_clear bP bQ).2.1)]) (c_X0_clear l G q_b q_bA q_bB q_bZ q_bG q_bP q_bQ bC bM bL bD bP bQ o_1) [0, 5, 6] [1, 2, 3, 4] [4, 0, 1, 2, 3, 5, 6] rfl rfl rfl (by decide) rfl rfl rfl gX0_fillAtFirst_X0_clear ⟨_, rfl⟩ hd_X0_clear rfl dX0_fillAtFirst_1 rfl rfl (Nat.le_of_ble_eq_true rfl) ⟨Nat.le_of_ble_eq_true rfl, Nat.le_of_ble_eq_true rfl⟩ ⟨Nat.le_refl 0, Nat.le_refl 0⟩ hx hb hml hown hts hB hD hS hA hP hl.1 (fun H locs hP hD hS => ?_)
  refine W.eq (g2 := F0 m 4 ls []) rfl ?_
  refine lv_aload_n hx hb dX0_fillAtFirst_4 rfl (lv_at hl 0 rfl) ?_
  refine lv_iconst (v := 0) hx hb dX0_fillAtFirst_5 (by decide) ?_
  refine va_gets hx hb (hB.2.2.1 0 _ rfl).1 hS hown t_0 (fun _ h9 => h9) dX0_fillAtFirst_6 ?_
  obtain ⟨o_2, hk⟩ := hk
  refine wr_V (ci := 0) (q0 := 0) (As := [.int 0, .ref (gS G 0)]) (rest := []) (wr := []) (wf := [oX0 q_b q_bA q_bB q_bZ q_bG q_bP q_bQ ((f_X0_addLine_S 0 bA bB bZ bG ((f_X0_clear bP bQ).1) ((f_X0_clear bP bQ).2.1) ((f_X0_clear bP bQ).2.2.1) ((f_X0_clear bP bQ).2.2.2.1) ((f_X0_clear bP bQ).2.2.2.2.1) ((f_X0_clear bP bQ).2.2.2.2.2) bgS0).2.2.2.2.2.2.1) ((f_X0_addLine_S 0 bA bB bZ bG ((f_X0_clear bP bQ).1) ((f_X0_clear bP bQ).2.1) ((f_X0_clear bP bQ).2.2.1) ((f_X0_clear bP bQ).2.2.2.1) ((f_X0_clear bP bQ).2.2.2.2.1) ((f_X0_clear bP bQ).2.2.2.2.2) bgS0).2.2.2.2.2.2.2.1) ((f_X0_addLine_S 0 bA bB bZ bG ((f_X0_clear bP bQ).1) ((f_X0_clear bP bQ).2.1) ((f_X0_clear bP bQ).2.2.1) ((f_X0_clear bP bQ).2.2.2.1) ((f_X0_clear bP bQ).2.2.2.2.1) ((f_X0_clear bP bQ).2.2.2.2.2) bgS0).2.2.2.2.2.2.2.2.1) ((f_X0_addLine_S 0 bA bB bZ bG ((f_X0_clear bP bQ).1) ((f_X0_clear bP bQ).2.1) ((f_X0_clear bP bQ).2.2.1) ((f_X0_clear bP bQ).2.2.2.1) ((f_X0_clear bP bQ).2.2.2.2.1) ((f_X0_clear bP bQ).2.2.2.2.2) bgS0).2.2.2.2.2.2.2.2.2), aI G q_bA 18 ((f_X0_addLine_S 0 bA bB bZ bG ((f_X0_clear bP bQ).1) ((f_X0_clear bP bQ).2.1) ((f_X0_clear bP bQ).2.2.1) ((f_X0_clear bP bQ).2.2.2.1) ((f_X0_clear bP bQ).2.2.2.2.1) ((f_X0_clear bP bQ).2.2.2.2.2) bgS0).1), aI G q_bB 60 ((f_X0_addLine_S 0 bA bB bZ bG ((f_X0_clear bP bQ).1) ((f_X0_clear bP bQ).2.1) ((f_X0_clear bP bQ).2.2.1) ((f_X0_clear bP bQ).2.2.2.1) ((f_X0_clear bP bQ).2.2.2.2.1) ((f_X0_clear bP bQ).2.2.2.2.2) bgS0).2.1), aI G q_bZ 45 ((f_X0_addLine_S 0 bA bB bZ bG ((f_X0_clear bP bQ).1) ((f_X0_clear bP bQ).2.1) ((f_X0_clear bP bQ).2.2.1) ((f_X0_clear bP bQ).2.2.2.1) ((f_X0_clear bP bQ).2.2.2.2.1) ((f_X0_clear bP bQ).2.2.2.2.2) bgS0).2.2.1), aI G q_bG 24 ((f_X0_addLine_S 0 bA bB bZ bG ((f_X0_clear bP bQ).1) ((f_X0_clear bP bQ).2.1) ((f_X0_clear bP bQ).2.2.1) ((f_X0_clear bP bQ).2.2.2.1) ((f_X0_clear bP bQ).2.2.2.2.1) ((f_X0_clear bP bQ).2.2.2.2.2) bgS0).2.2.2.1), aI G q_bP 3 ((f_X0_addLine_S 0 bA bB bZ bG ((f_X0_clear bP bQ).1) ((f_X0_clear bP bQ).2.1) ((f_X0_clear bP bQ).2.2.1) ((f_X0_clear bP bQ).2.2.2.1) ((f_X0_clear bP bQ).2.2.2.2.1) ((f_X0_clear bP bQ).2.2.2.2.2) bgS0).2.2.2.2.1), aI G q_bQ 3 ((f_X0_addLine_S 0 bA bB bZ bG ((f_X0_clear bP bQ).1) ((f_X0_clear bP bQ).2.1) ((f_X0_clear bP bQ).2.2.1) ((f_X0_clear bP bQ).2.2.2.1) ((f_X0_clear bP bQ).2.2.2.2.1) ((f_X0_clear bP bQ).2.2.2.2.2) bgS0).2.2.2.2.2.1)]) (c_X0_addLine_S l G 0 RX0 "FIRST_CARRIER" bgS0 rfl (by decide) q_b q_bA q_bB q_bZ q_bG q_bP q_bQ ((f_X0_clear bP bQ).2.2.1) ((f_X0_clear bP bQ).2.2.2.1) ((f_X0_clear bP bQ).2.2.2.2.1) ((f_X0_clear bP bQ).2.2.2.2.2) bA bB bZ bG ((f_X0_clear bP bQ).1) ((f_X0_clear bP bQ).2.1) 0 o_2) [0, 1, 2, 3, 4, 5, 6] [] [0, 1, 2, 3, 4, 5, 6] rfl rfl rfl (by decide) rfl rfl rfl gX0_fillAtFirst_X0_addLine ⟨_, rfl⟩ hd_X0_addLine rfl dX0_fillAtFirst_9 rfl rfl (Nat.le_of_ble_eq_true rfl) ⟨Nat.le_of_ble_eq_true rfl, Nat.le_of_ble_eq_true rfl⟩ ⟨Nat.le_refl 0, Nat.le_refl 0⟩ hx hb hml hown hts hB hD hS hA hP hl.1 (fun H locs hP hD hS => ?_)
  refine W.eq (g2 := F0 m 12 ls []) rfl ?_
  exact T12 ((f_X0_addLine_S 0 bA bB bZ bG ((f_X0_clear bP bQ).1) ((f_X0_clear bP bQ).2.1) ((f_X0_clear bP bQ).2.2.1) ((f_X0_clear bP bQ).2.2.2.1) ((f_X0_clear bP bQ).2.2.2.2.1) ((f_X0_clear bP bQ).2.2.2.2.2) bgS0).1) ((f_X0_addLine_S 0 bA bB bZ bG ((f_X0_clear bP bQ).1) ((f_X0_clear bP bQ).2.1) ((f_X0_clear bP bQ).2.2.1) ((f_X0_clear bP bQ).2.2.2.1) ((f_X0_clear bP bQ).2.2.2.2.1) ((f_X0_clear bP bQ).2.2.2.2.2) bgS0).2.1) ((f_X0_addLine_S 0 bA bB bZ bG ((f_X0_clear bP bQ).1) ((f_X0_clear bP bQ).2.1) ((f_X0_clear bP bQ).2.2.1) ((f_X0_clear bP bQ).2.2.2.1) ((f_X0_clear bP bQ).2.2.2.2.1) ((f_X0_clear bP bQ).2.2.2.2.2) bgS0).2.2.1) ((f_X0_addLine_S 0 bA bB bZ bG ((f_X0_clear bP bQ).1) ((f_X0_clear bP bQ).2.1) ((f_X0_clear bP bQ).2.2.1) ((f_X0_clear bP bQ).2.2.2.1) ((f_X0_clear bP bQ).2.2.2.2.1) ((f_X0_clear bP bQ).2.2.2.2.2) bgS0).2.2.2.1) ((f_X0_addLine_S 0 bA bB bZ bG ((f_X0_clear bP bQ).1) ((f_X0_clear bP bQ).2.1) ((f_X0_clear bP bQ).2.2.1) ((f_X0_clear bP bQ).2.2.2.1) ((f_X0_clear bP bQ).2.2.2.2.1) ((f_X0_clear bP bQ).2.2.2.2.2) bgS0).2.2.2.2.1) ((f_X0_addLine_S 0 bA bB bZ bG ((f_X0_clear bP bQ).1) ((f_X0_clear bP bQ).2.1) ((f_X0_clear bP bQ).2.2.1) ((f_X0_clear bP bQ).2.2.2.1) ((f_X0_clear bP bQ).2.2.2.2.1) ((f_X0_clear bP bQ).2.2.2.2.2) bgS0).2.2.2.2.2.1) ((f_X0_addLine_S 0 bA bB bZ bG ((f_X0_clear bP bQ).1) ((f_X0_clear bP bQ).2.1) ((f_X0_clear bP bQ).2.2.1) ((f_X0_clear bP bQ).2.2.2.1) ((f_X0_clear bP bQ).2.2.2.2.1) ((f_X0_clear bP bQ).2.2.2.2.2) bgS0).2.2.2.2.2.2.1) ((f_X0_addLine_S 0 bA bB bZ bG ((f_X0_clear bP bQ).1) ((f_X0_clear bP bQ).2.1) ((f_X0_clear bP bQ).2.2.1) ((f_X0_clear bP bQ).2.2.2.1) ((f_X0_clear bP bQ).2.2.2.2.1) ((f_X0_clear bP bQ).2.2.2.2.2) bgS0).2.2.2.2.2.2.2.1) ((f_X0_addLine_S 0 bA bB bZ bG ((f_X0_clear bP bQ).1) ((f_X0_clear bP bQ).2.1) ((f_X0_clear bP bQ).2.2.1) ((f_X0_clear bP bQ).2.2.2.1) ((f_X0_clear bP bQ).2.2.2.2.1) ((f_X0_clear bP bQ).2.2.2.2.2) bgS0).2.2.2.2.2.2.2.2.1) ((f_X0_addLine_S 0 bA bB bZ bG ((f_X0_clear bP bQ).1) ((f_X0_clear bP bQ).2.1) ((f_X0_clear bP bQ).2.2.1) ((f_X0_clear bP bQ).2.2.2.1) ((f_X0_clear bP bQ).2.2.2.2.1) ((f_X0_clear bP bQ).2.2.2.2.2) bgS0).2.2.2.2.2.2.2.2.2) hk (by rw [f_X0_fillAtFirst]) _ _ hP hD hS ls (lv_sub hl [0] rfl)

noncomputable def f_X0_copyFrom (bA : Nat → Int32) (bB : Nat → Int32) (bZ : Nat → Int32) (bG : Nat → Int32) (bP : Nat → Int32) (bQ : Nat → Int32) (dA : Nat → Int32) (dB : Nat → Int32) (dZ : Nat → Int32) (dG : Nat → Int32) (dP : Nat → Int32) (dQ : Nat → Int32) (dC : Int32) (dM : Int32) (dL : Int32) (dD : Int32) : (Nat → Int32) × (Nat → Int32) × (Nat → Int32) × (Nat → Int32) × (Nat → Int32) × (Nat → Int32) × Int32 × Int32 × Int32 × Int32 := (f_X6_copy 0 0 18 dA bA 18 18, f_X6_copy 0 0 60 dB bB 60 60, f_X6_copy 0 0 45 dZ bZ 45 45, f_X6_copy 0 0 24 dG bG 24 24, f_X6_copy 0 0 3 dP bP 3 3, f_X6_copy 0 0 3 dQ bQ 3 3, dC, dM, dL, dD)
noncomputable def k_X0_copyFrom (bA : Nat → Int32) (bB : Nat → Int32) (bZ : Nat → Int32) (bG : Nat → Int32) (bP : Nat → Int32) (bQ : Nat → Int32) (dA : Nat → Int32) (dB : Nat → Int32) (dZ : Nat → Int32) (dG : Nat → Int32) (dP : Nat → Int32) (dQ : Nat → Int32) : Prop := (k_X6_copy 0 0 18 dA bA 18 18 ∧ (k_X6_copy 0 0 60 dB bB 60 60 ∧ (k_X6_copy 0 0 45 dZ bZ 45 45 ∧ (k_X6_copy 0 0 24 dG bG 24 24 ∧ (k_X6_copy 0 0 3 dP bP 3 3 ∧ (k_X6_copy 0 0 3 dQ bQ 3 3 ∧ True))))))
theorem hd_X0_copyFrom : yX0_copyFrom.cls ≠ "java/lang/invoke/MethodHandle" ∧ yX0_copyFrom.cls ≠ "java/lang/invoke/VarHandle" ∧ (parseMethodDescriptor yX0_copyFrom.desc).map (fun d => d.parameters.length) = some 1 := by decide +kernel
set_option maxHeartbeats 4000000 in
set_option maxRecDepth 100000 in
theorem c_X0_copyFrom (l : Launch) (G : BGT) (q_b q_bA q_bB q_bZ q_bG q_bP q_bQ q_d q_dA q_dB q_dZ q_dG q_dP q_dQ : Nat) (bC : Int32) (bM : Int32) (bL : Int32) (bD : Int32) (bA : Nat → Int32) (bB : Nat → Int32) (bZ : Nat → Int32) (bG : Nat → Int32) (bP : Nat → Int32) (bQ : Nat → Int32) (dC : Int32) (dM : Int32) (dL : Int32) (dD : Int32) (dA : Nat → Int32) (dB : Nat → Int32) (dZ : Nat → Int32) (dG : Nat → Int32) (dP : Nat → Int32) (dQ : Nat → Int32) (hk : k_X0_copyFrom bA bB bZ bG bP bQ dA dB dZ dG dP dQ) : WR l yX0_copyFrom wsX0_copyFrom 2 G [oX0 q_b q_bA q_bB q_bZ q_bG q_bP q_bQ bC bM bL bD, aI G q_bA 18 bA, aI G q_bB 60 bB, aI G q_bZ 45 bZ, aI G q_bG 24 bG, aI G q_bP 3 bP, aI G q_bQ 3 bQ, oX0 q_d q_dA q_dB q_dZ q_dG q_dP q_dQ dC dM dL dD, aI G q_dA 18 dA, aI G q_dB 60 dB, aI G q_dZ 45 dZ, aI G q_dG 24 dG, aI G q_dP 3 dP, aI G q_dQ 3 dQ] [oX0 q_b q_bA q_bB q_bZ q_bG q_bP q_bQ ((f_X0_copyFrom bA bB bZ bG bP bQ dA dB dZ dG dP dQ dC dM dL dD).2.2.2.2.2.2.1) ((f_X0_copyFrom bA bB bZ bG bP bQ dA dB dZ dG dP dQ dC dM dL dD).2.2.2.2.2.2.2.1) ((f_X0_copyFrom bA bB bZ bG bP bQ dA dB dZ dG dP dQ dC dM dL dD).2.2.2.2.2.2.2.2.1) ((f_X0_copyFrom bA bB bZ bG bP bQ dA dB dZ dG dP dQ dC dM dL dD).2.2.2.2.2.2.2.2.2), aI G q_bA 18 ((f_X0_copyFrom bA bB bZ bG bP bQ dA dB dZ dG dP dQ dC dM dL dD).1), aI G q_bB 60 ((f_X0_copyFrom bA bB bZ bG bP bQ dA dB dZ dG dP dQ dC dM dL dD).2.1), aI G q_bZ 45 ((f_X0_copyFrom bA bB bZ bG bP bQ dA dB dZ dG dP dQ dC dM dL dD).2.2.1), aI G q_bG 24 ((f_X0_copyFrom bA bB bZ bG bP bQ dA dB dZ dG dP dQ dC dM dL dD).2.2.2.1), aI G q_bP 3 ((f_X0_copyFrom bA bB bZ bG bP bQ dA dB dZ dG dP dQ dC dM dL dD).2.2.2.2.1), aI G q_bQ 3 ((f_X0_copyFrom bA bB bZ bG bP bQ dA dB dZ dG dP dQ dC dM dL dD).2.2.2.2.2.1), oX0 q_d q_dA q_dB q_dZ q_dG q_dP q_dQ dC dM dL dD, aI G q_dA 18 dA, aI G q_dB 60 dB, aI G q_dZ 45 dZ, aI G q_dG 24 dG, aI G q_dP 3 dP, aI G q_dQ 3 dQ] [.ref q_b, .ref q_d] none := by
  refine WR.ofW (cc := cX0_copyFrom) (maxL := 2) (ret := none) (C := RX0) (by decide) rfl rfl (Nat.le_of_ble_eq_true rfl) ?_
  intro p e s m args below meth c Q ls A hx hb hml hts hown hP hD hS hA hB hl fi fv
  have hl : lv_has ls 2 [(0, .ref q_b), (1, .ref q_d)] := hl
  have t_0 := hts (.fieldLink RX0 11 "ParcelSplit$Book" "carriers" "[I") (by decide +kernel)
  have t_1 := hts (.fieldLink RX0 15 "ParcelSplit$Book" "breaks" "[I") (by decide +kernel)
  have t_2 := hts (.fieldLink RX0 18 "ParcelSplit$Book" "zones" "[I") (by decide +kernel)
  have t_3 := hts (.fieldLink RX0 21 "ParcelSplit$Book" "goods" "[I") (by decide +kernel)
  have t_4 := hts (.fieldLink RX0 24 "ParcelSplit$Book" "breakCounts" "[I") (by decide +kernel)
  have t_5 := hts (.fieldLink RX0 27 "ParcelSplit$Book" "zonesCounts" "[I") (by decide +kernel)
  have t_6 := hts (.fieldLink RX0 36 "ParcelSplit$Book" "carrierCount" "I") (by decide +kernel)
  have t_7 := hts (.fieldLink RX0 40 "ParcelSplit$Book" "goodCount" "I") (by decide +kernel)
  have t_8 := hts (.fieldLink RX0 43 "ParcelSplit$Book" "place" "I") (by decide +kernel)
  have t_9 := hts (.fieldLink RX0 46 "ParcelSplit$Book" "day" "I") (by decide +kernel)
  have m_0 : Cond.initialized RX6 ∈ wsX0_copyFrom := by decide +kernel
  have m_1 : Cond.static yX6_copy ∈ wsX0_copyFrom := by decide +kernel
  have i_X0 : ∀ w ∈ wsX00, w ∈ wsX0_copyFrom := by decide +kernel
  rw [k_X0_copyFrom] at hk
  refine lv_aload_n hx hb dX0_copyFrom_0 rfl (lv_at hl 1 rfl) ?_
  refine va_get (D := gD G) (ci := 0) (v := .ref q_dA) (C := RX0) (T := TX0) (N := 10) hx hb hts i_X0 hown hB.1 hP 7 rfl rfl 0 (by decide) t_0 (fun _ h9 => h9) rfl dX0_copyFrom_1 ?_
  refine lv_iconst (v := 0) hx hb dX0_copyFrom_4 (by decide) ?_
  refine lv_aload_n hx hb dX0_copyFrom_5 rfl (lv_at hl 0 rfl) ?_
  refine va_get (D := gD G) (ci := 0) (v := .ref q_bA) (C := RX0) (T := TX0) (N := 10) hx hb hts i_X0 hown hB.1 hP 0 rfl rfl 0 (by decide) t_0 (fun _ h9 => h9) rfl dX0_copyFrom_6 ?_
  refine lv_iconst (v := 0) hx hb dX0_copyFrom_9 (by decide) ?_
  refine lv_aload_n hx hb dX0_copyFrom_10 rfl (lv_at hl 0 rfl) ?_
  refine va_get (D := gD G) (ci := 0) (v := .ref q_bA) (C := RX0) (T := TX0) (N := 10) hx hb hts i_X0 hown hB.1 hP 0 rfl rfl 0 (by decide) t_0 (fun _ h9 => h9) rfl dX0_copyFrom_11 ?_
  refine va_alen (v := 18) hx hb hB.1 hP 1 1 rfl (ty := .int) rfl rfl dX0_copyFrom_14 ?_
  obtain ⟨o_1, hk⟩ := hk
  refine wr_SN (As := [.ref q_dA, .int 0, .ref q_bA, .int 0, .int 18]) (rest := []) (wr := [oX0 q_b q_bA q_bB q_bZ q_bG q_bP q_bQ bC bM bL bD, aI G q_bB 60 bB, aI G q_bZ 45 bZ, aI G q_bG 24 bG, aI G q_bP 3 bP, aI G q_bQ 3 bQ, oX0 q_d q_dA q_dB q_dZ q_dG q_dP q_dQ dC dM dL dD, aI G q_dB 60 dB, aI G q_dZ 45 dZ, aI G q_dG 24 dG, aI G q_dP 3 dP, aI G q_dQ 3 dQ]) (wf := [oX0 q_b q_bA q_bB q_bZ q_bG q_bP q_bQ bC bM bL bD, aI G q_bA 18 (f_X6_copy 0 0 18 dA bA 18 18), aI G q_bB 60 bB, aI G q_bZ 45 bZ, aI G q_bG 24 bG, aI G q_bP 3 bP, aI G q_bQ 3 bQ, oX0 q_d q_dA q_dB q_dZ q_dG q_dP q_dQ dC dM dL dD, aI G q_dA 18 dA, aI G q_dB 60 dB, aI G q_dZ 45 dZ, aI G q_dG 24 dG, aI G q_dP 3 dP, aI G q_dQ 3 dQ]) (c_X6_copy l G 18 18 (by decide) (by decide) q_dA q_bA dA bA 0 0 18 o_1) [8, 1] [0, 2, 3, 4, 5, 6, 7, 9, 10, 11, 12, 13] [0, 13, 1, 2, 3, 4, 5, 6, 12, 7, 8, 9, 10, 11] rfl rfl rfl (by decide) gX0_copyFrom_X6_copy_n65 ⟨_, rfl⟩ hd_X6_copy 3 rfl m_0 m_1 dX0_copyFrom_15 rfl rfl (Nat.le_of_ble_eq_true rfl) ⟨Nat.le_of_ble_eq_true rfl, Nat.le_of_ble_eq_true rfl⟩ ⟨Nat.le_refl 0, Nat.le_refl 0⟩ hx hb hml hown hts hB hD hS hA hP hl.1 (fun H locs hP hD hS => ?_)
  refine W.eq (g2 := F0 m 18 ls []) rfl ?_
  refine lv_aload_n hx hb dX0_copyFrom_18 rfl (lv_at hl 1 rfl) ?_
  refine va_get (D := gD G) (ci := 0) (v := .ref q_dB) (C := RX0) (T := TX0) (N := 10) hx hb hts i_X0 hown hB.1 hP 7 rfl rfl 1 (by decide) t_1 (fun _ h9 => h9) rfl dX0_copyFrom_19 ?_
  refine lv_iconst (v := 0) hx hb dX0_copyFrom_22 (by decide) ?_
  refine lv_aload_n hx hb dX0_copyFrom_23 rfl (lv_at hl 0 rfl) ?_
  refine va_get (D := gD G) (ci := 0) (v := .ref q_bB) (C := RX0) (T := TX0) (N := 10) hx hb hts i_X0 hown hB.1 hP 0 rfl rfl 1 (by decide) t_1 (fun _ h9 => h9) rfl dX0_copyFrom_24 ?_
  refine lv_iconst (v := 0) hx hb dX0_copyFrom_27 (by decide) ?_
  refine lv_aload_n hx hb dX0_copyFrom_28 rfl (lv_at hl 0 rfl) ?_
  refine va_get (D := gD G) (ci := 0) (v := .ref q_bB) (C := RX0) (T := TX0) (N := 10) hx hb hts i_X0 hown hB.1 hP 0 rfl rfl 1 (by decide) t_1 (fun _ h9 => h9) rfl dX0_copyFrom_29 ?_
  refine va_alen (v := 60) hx hb hB.1 hP 2 1 rfl (ty := .int) rfl rfl dX0_copyFrom_32 ?_
  obtain ⟨o_2, hk⟩ := hk
  refine wr_SN (As := [.ref q_dB, .int 0, .ref q_bB, .int 0, .int 60]) (rest := []) (wr := [oX0 q_b q_bA q_bB q_bZ q_bG q_bP q_bQ bC bM bL bD, aI G q_bA 18 (f_X6_copy 0 0 18 dA bA 18 18), aI G q_bZ 45 bZ, aI G q_bG 24 bG, aI G q_bP 3 bP, aI G q_bQ 3 bQ, oX0 q_d q_dA q_dB q_dZ q_dG q_dP q_dQ dC dM dL dD, aI G q_dA 18 dA, aI G q_dZ 45 dZ, aI G q_dG 24 dG, aI G q_dP 3 dP, aI G q_dQ 3 dQ]) (wf := [oX0 q_b q_bA q_bB q_bZ q_bG q_bP q_bQ bC bM bL bD, aI G q_bA 18 (f_X6_copy 0 0 18 dA bA 18 18), aI G q_bB 60 (f_X6_copy 0 0 60 dB bB 60 60), aI G q_bZ 45 bZ, aI G q_bG 24 bG, aI G q_bP 3 bP, aI G q_bQ 3 bQ, oX0 q_d q_dA q_dB q_dZ q_dG q_dP q_dQ dC dM dL dD, aI G q_dA 18 dA, aI G q_dB 60 dB, aI G q_dZ 45 dZ, aI G q_dG 24 dG, aI G q_dP 3 dP, aI G q_dQ 3 dQ]) (c_X6_copy l G 60 60 (by decide) (by decide) q_dB q_bB dB bB 0 0 60 o_2) [9, 2] [0, 1, 3, 4, 5, 6, 7, 8, 10, 11, 12, 13] [0, 1, 13, 2, 3, 4, 5, 6, 7, 12, 8, 9, 10, 11] rfl rfl rfl (by decide) gX0_copyFrom_X6_copy_n65 ⟨_, rfl⟩ hd_X6_copy 3 rfl m_0 m_1 dX0_copyFrom_33 rfl rfl (Nat.le_of_ble_eq_true rfl) ⟨Nat.le_of_ble_eq_true rfl, Nat.le_of_ble_eq_true rfl⟩ ⟨Nat.le_refl 0, Nat.le_refl 0⟩ hx hb hml hown hts hB hD hS hA hP hl.1 (fun H locs hP hD hS => ?_)
  refine W.eq (g2 := F0 m 36 ls []) rfl ?_
  refine lv_aload_n hx hb dX0_copyFrom_36 rfl (lv_at hl 1 rfl) ?_
  refine va_get (D := gD G) (ci := 0) (v := .ref q_dZ) (C := RX0) (T := TX0) (N := 10) hx hb hts i_X0 hown hB.1 hP 7 rfl rfl 2 (by decide) t_2 (fun _ h9 => h9) rfl dX0_copyFrom_37 ?_
  refine lv_iconst (v := 0) hx hb dX0_copyFrom_40 (by decide) ?_
  refine lv_aload_n hx hb dX0_copyFrom_41 rfl (lv_at hl 0 rfl) ?_
  refine va_get (D := gD G) (ci := 0) (v := .ref q_bZ) (C := RX0) (T := TX0) (N := 10) hx hb hts i_X0 hown hB.1 hP 0 rfl rfl 2 (by decide) t_2 (fun _ h9 => h9) rfl dX0_copyFrom_42 ?_
  refine lv_iconst (v := 0) hx hb dX0_copyFrom_45 (by decide) ?_
  refine lv_aload_n hx hb dX0_copyFrom_46 rfl (lv_at hl 0 rfl) ?_
  refine va_get (D := gD G) (ci := 0) (v := .ref q_bZ) (C := RX0) (T := TX0) (N := 10) hx hb hts i_X0 hown hB.1 hP 0 rfl rfl 2 (by decide) t_2 (fun _ h9 => h9) rfl dX0_copyFrom_47 ?_
  refine va_alen (v := 45) hx hb hB.1 hP 3 1 rfl (ty := .int) rfl rfl dX0_copyFrom_50 ?_
  obtain ⟨o_3, hk⟩ := hk
  refine wr_SN (As := [.ref q_dZ, .int 0, .ref q_bZ, .int 0, .int 45]) (rest := []) (wr := [oX0 q_b q_bA q_bB q_bZ q_bG q_bP q_bQ bC bM bL bD, aI G q_bA 18 (f_X6_copy 0 0 18 dA bA 18 18), aI G q_bB 60 (f_X6_copy 0 0 60 dB bB 60 60), aI G q_bG 24 bG, aI G q_bP 3 bP, aI G q_bQ 3 bQ, oX0 q_d q_dA q_dB q_dZ q_dG q_dP q_dQ dC dM dL dD, aI G q_dA 18 dA, aI G q_dB 60 dB, aI G q_dG 24 dG, aI G q_dP 3 dP, aI G q_dQ 3 dQ]) (wf := [oX0 q_b q_bA q_bB q_bZ q_bG q_bP q_bQ bC bM bL bD, aI G q_bA 18 (f_X6_copy 0 0 18 dA bA 18 18), aI G q_bB 60 (f_X6_copy 0 0 60 dB bB 60 60), aI G q_bZ 45 (f_X6_copy 0 0 45 dZ bZ 45 45), aI G q_bG 24 bG, aI G q_bP 3 bP, aI G q_bQ 3 bQ, oX0 q_d q_dA q_dB q_dZ q_dG q_dP q_dQ dC dM dL dD, aI G q_dA 18 dA, aI G q_dB 60 dB, aI G q_dZ 45 dZ, aI G q_dG 24 dG, aI G q_dP 3 dP, aI G q_dQ 3 dQ]) (c_X6_copy l G 45 45 (by decide) (by decide) q_dZ q_bZ dZ bZ 0 0 45 o_3) [10, 3] [0, 1, 2, 4, 5, 6, 7, 8, 9, 11, 12, 13] [0, 1, 2, 13, 3, 4, 5, 6, 7, 8, 12, 9, 10, 11] rfl rfl rfl (by decide) gX0_copyFrom_X6_copy_n65 ⟨_, rfl⟩ hd_X6_copy 3 rfl m_0 m_1 dX0_copyFrom_51 rfl rfl (Nat.le_of_ble_eq_true rfl) ⟨Nat.le_of_ble_eq_true rfl, Nat.le_of_ble_eq_true rfl⟩ ⟨Nat.le_refl 0, Nat.le_refl 0⟩ hx hb hml hown hts hB hD hS hA hP hl.1 (fun H locs hP hD hS => ?_)
  refine W.eq (g2 := F0 m 54 ls []) rfl ?_
  refine lv_aload_n hx hb dX0_copyFrom_54 rfl (lv_at hl 1 rfl) ?_
  refine va_get (D := gD G) (ci := 0) (v := .ref q_dG) (C := RX0) (T := TX0) (N := 10) hx hb hts i_X0 hown hB.1 hP 7 rfl rfl 3 (by decide) t_3 (fun _ h9 => h9) rfl dX0_copyFrom_55 ?_
  refine lv_iconst (v := 0) hx hb dX0_copyFrom_58 (by decide) ?_
  refine lv_aload_n hx hb dX0_copyFrom_59 rfl (lv_at hl 0 rfl) ?_
  refine va_get (D := gD G) (ci := 0) (v := .ref q_bG) (C := RX0) (T := TX0) (N := 10) hx hb hts i_X0 hown hB.1 hP 0 rfl rfl 3 (by decide) t_3 (fun _ h9 => h9) rfl dX0_copyFrom_60 ?_
  refine lv_iconst (v := 0) hx hb dX0_copyFrom_63 (by decide) ?_
  refine lv_aload_n hx hb dX0_copyFrom_64 rfl (lv_at hl 0 rfl) ?_
  refine va_get (D := gD G) (ci := 0) (v := .ref q_bG) (C := RX0) (T := TX0) (N := 10) hx hb hts i_X0 hown hB.1 hP 0 rfl rfl 3 (by decide) t_3 (fun _ h9 => h9) rfl dX0_copyFrom_65 ?_
  refine va_alen (v := 24) hx hb hB.1 hP 4 1 rfl (ty := .int) rfl rfl dX0_copyFrom_68 ?_
  obtain ⟨o_4, hk⟩ := hk
  refine wr_SN (As := [.ref q_dG, .int 0, .ref q_bG, .int 0, .int 24]) (rest := []) (wr := [oX0 q_b q_bA q_bB q_bZ q_bG q_bP q_bQ bC bM bL bD, aI G q_bA 18 (f_X6_copy 0 0 18 dA bA 18 18), aI G q_bB 60 (f_X6_copy 0 0 60 dB bB 60 60), aI G q_bZ 45 (f_X6_copy 0 0 45 dZ bZ 45 45), aI G q_bP 3 bP, aI G q_bQ 3 bQ, oX0 q_d q_dA q_dB q_dZ q_dG q_dP q_dQ dC dM dL dD, aI G q_dA 18 dA, aI G q_dB 60 dB, aI G q_dZ 45 dZ, aI G q_dP 3 dP, aI G q_dQ 3 dQ]) (wf := [oX0 q_b q_bA q_bB q_bZ q_bG q_bP q_bQ bC bM bL bD, aI G q_bA 18 (f_X6_copy 0 0 18 dA bA 18 18), aI G q_bB 60 (f_X6_copy 0 0 60 dB bB 60 60), aI G q_bZ 45 (f_X6_copy 0 0 45 dZ bZ 45 45), aI G q_bG 24 (f_X6_copy 0 0 24 dG bG 24 24), aI G q_bP 3 bP, aI G q_bQ 3 bQ, oX0 q_d q_dA q_dB q_dZ q_dG q_dP q_dQ dC dM dL dD, aI G q_dA 18 dA, aI G q_dB 60 dB, aI G q_dZ 45 dZ, aI G q_dG 24 dG, aI G q_dP 3 dP, aI G q_dQ 3 dQ]) (c_X6_copy l G 24 24 (by decide) (by decide) q_dG q_bG dG bG 0 0 24 o_4) [11, 4] [0, 1, 2, 3, 5, 6, 7, 8, 9, 10, 12, 13] [0, 1, 2, 3, 13, 4, 5, 6, 7, 8, 9, 12, 10, 11] rfl rfl rfl (by decide) gX0_copyFrom_X6_copy_n65 ⟨_, rfl⟩ hd_X6_copy 3 rfl m_0 m_1 dX0_copyFrom_69 rfl rfl (Nat.le_of_ble_eq_true rfl) ⟨Nat.le_of_ble_eq_true rfl, Nat.le_of_ble_eq_true rfl⟩ ⟨Nat.le_refl 0, Nat.le_refl 0⟩ hx hb hml hown hts hB hD hS hA hP hl.1 (fun H locs hP hD hS => ?_)
  refine W.eq (g2 := F0 m 72 ls []) rfl ?_
  refine lv_aload_n hx hb dX0_copyFrom_72 rfl (lv_at hl 1 rfl) ?_
  refine va_get (D := gD G) (ci := 0) (v := .ref q_dP) (C := RX0) (T := TX0) (N := 10) hx hb hts i_X0 hown hB.1 hP 7 rfl rfl 4 (by decide) t_4 (fun _ h9 => h9) rfl dX0_copyFrom_73 ?_
  refine lv_iconst (v := 0) hx hb dX0_copyFrom_76 (by decide) ?_
  refine lv_aload_n hx hb dX0_copyFrom_77 rfl (lv_at hl 0 rfl) ?_
  refine va_get (D := gD G) (ci := 0) (v := .ref q_bP) (C := RX0) (T := TX0) (N := 10) hx hb hts i_X0 hown hB.1 hP 0 rfl rfl 4 (by decide) t_4 (fun _ h9 => h9) rfl dX0_copyFrom_78 ?_
  refine lv_iconst (v := 0) hx hb dX0_copyFrom_81 (by decide) ?_
  refine lv_iconst (v := 3) hx hb dX0_copyFrom_82 (by decide) ?_
  obtain ⟨o_5, hk⟩ := hk
  refine wr_SN (As := [.ref q_dP, .int 0, .ref q_bP, .int 0, .int 3]) (rest := []) (wr := [oX0 q_b q_bA q_bB q_bZ q_bG q_bP q_bQ bC bM bL bD, aI G q_bA 18 (f_X6_copy 0 0 18 dA bA 18 18), aI G q_bB 60 (f_X6_copy 0 0 60 dB bB 60 60), aI G q_bZ 45 (f_X6_copy 0 0 45 dZ bZ 45 45), aI G q_bG 24 (f_X6_copy 0 0 24 dG bG 24 24), aI G q_bQ 3 bQ, oX0 q_d q_dA q_dB q_dZ q_dG q_dP q_dQ dC dM dL dD, aI G q_dA 18 dA, aI G q_dB 60 dB, aI G q_dZ 45 dZ, aI G q_dG 24 dG, aI G q_dQ 3 dQ]) (wf := [oX0 q_b q_bA q_bB q_bZ q_bG q_bP q_bQ bC bM bL bD, aI G q_bA 18 (f_X6_copy 0 0 18 dA bA 18 18), aI G q_bB 60 (f_X6_copy 0 0 60 dB bB 60 60), aI G q_bZ 45 (f_X6_copy 0 0 45 dZ bZ 45 45), aI G q_bG 24 (f_X6_copy 0 0 24 dG bG 24 24), aI G q_bP 3 (f_X6_copy 0 0 3 dP bP 3 3), aI G q_bQ 3 bQ, oX0 q_d q_dA q_dB q_dZ q_dG q_dP q_dQ dC dM dL dD, aI G q_dA 18 dA, aI G q_dB 60 dB, aI G q_dZ 45 dZ, aI G q_dG 24 dG, aI G q_dP 3 dP, aI G q_dQ 3 dQ]) (c_X6_copy l G 3 3 (by decide) (by decide) q_dP q_bP dP bP 0 0 3 o_5) [12, 5] [0, 1, 2, 3, 4, 6, 7, 8, 9, 10, 11, 13] [0, 1, 2, 3, 4, 13, 5, 6, 7, 8, 9, 10, 12, 11] rfl rfl rfl (by decide) gX0_copyFrom_X6_copy_n65 ⟨_, rfl⟩ hd_X6_copy 3 rfl m_0 m_1 dX0_copyFrom_83 rfl rfl (Nat.le_of_ble_eq_true rfl) ⟨Nat.le_of_ble_eq_true rfl, Nat.le_of_ble_eq_true rfl⟩ ⟨Nat.le_refl 0, Nat.le_refl 0⟩ hx hb hml hown hts hB hD hS hA hP hl.1 (fun H locs hP hD hS => ?_)
  refine W.eq (g2 := F0 m 86 ls []) rfl ?_
  refine lv_aload_n hx hb dX0_copyFrom_86 rfl (lv_at hl 1 rfl) ?_
  refine va_get (D := gD G) (ci := 0) (v := .ref q_dQ) (C := RX0) (T := TX0) (N := 10) hx hb hts i_X0 hown hB.1 hP 7 rfl rfl 5 (by decide) t_5 (fun _ h9 => h9) rfl dX0_copyFrom_87 ?_
  refine lv_iconst (v := 0) hx hb dX0_copyFrom_90 (by decide) ?_
  refine lv_aload_n hx hb dX0_copyFrom_91 rfl (lv_at hl 0 rfl) ?_
  refine va_get (D := gD G) (ci := 0) (v := .ref q_bQ) (C := RX0) (T := TX0) (N := 10) hx hb hts i_X0 hown hB.1 hP 0 rfl rfl 5 (by decide) t_5 (fun _ h9 => h9) rfl dX0_copyFrom_92 ?_
  refine lv_iconst (v := 0) hx hb dX0_copyFrom_95 (by decide) ?_
  refine lv_iconst (v := 3) hx hb dX0_copyFrom_96 (by decide) ?_
  obtain ⟨o_6, hk⟩ := hk
  refine wr_SN (As := [.ref q_dQ, .int 0, .ref q_bQ, .int 0, .int 3]) (rest := []) (wr := [oX0 q_b q_bA q_bB q_bZ q_bG q_bP q_bQ bC bM bL bD, aI G q_bA 18 (f_X6_copy 0 0 18 dA bA 18 18), aI G q_bB 60 (f_X6_copy 0 0 60 dB bB 60 60), aI G q_bZ 45 (f_X6_copy 0 0 45 dZ bZ 45 45), aI G q_bG 24 (f_X6_copy 0 0 24 dG bG 24 24), aI G q_bP 3 (f_X6_copy 0 0 3 dP bP 3 3), oX0 q_d q_dA q_dB q_dZ q_dG q_dP q_dQ dC dM dL dD, aI G q_dA 18 dA, aI G q_dB 60 dB, aI G q_dZ 45 dZ, aI G q_dG 24 dG, aI G q_dP 3 dP]) (wf := [oX0 q_b q_bA q_bB q_bZ q_bG q_bP q_bQ bC bM bL bD, aI G q_bA 18 (f_X6_copy 0 0 18 dA bA 18 18), aI G q_bB 60 (f_X6_copy 0 0 60 dB bB 60 60), aI G q_bZ 45 (f_X6_copy 0 0 45 dZ bZ 45 45), aI G q_bG 24 (f_X6_copy 0 0 24 dG bG 24 24), aI G q_bP 3 (f_X6_copy 0 0 3 dP bP 3 3), aI G q_bQ 3 (f_X6_copy 0 0 3 dQ bQ 3 3), oX0 q_d q_dA q_dB q_dZ q_dG q_dP q_dQ dC dM dL dD, aI G q_dA 18 dA, aI G q_dB 60 dB, aI G q_dZ 45 dZ, aI G q_dG 24 dG, aI G q_dP 3 dP, aI G q_dQ 3 dQ]) (c_X6_copy l G 3 3 (by decide) (by decide) q_dQ q_bQ dQ bQ 0 0 3 o_6) [13, 6] [0, 1, 2, 3, 4, 5, 7, 8, 9, 10, 11, 12] [0, 1, 2, 3, 4, 5, 13, 6, 7, 8, 9, 10, 11, 12] rfl rfl rfl (by decide) gX0_copyFrom_X6_copy_n65 ⟨_, rfl⟩ hd_X6_copy 3 rfl m_0 m_1 dX0_copyFrom_97 rfl rfl (Nat.le_of_ble_eq_true rfl) ⟨Nat.le_of_ble_eq_true rfl, Nat.le_of_ble_eq_true rfl⟩ ⟨Nat.le_refl 0, Nat.le_refl 0⟩ hx hb hml hown hts hB hD hS hA hP hl.1 (fun H locs hP hD hS => ?_)
  refine W.eq (g2 := F0 m 100 ls []) rfl ?_
  refine lv_aload_n hx hb dX0_copyFrom_100 rfl (lv_at hl 0 rfl) ?_
  refine lv_aload_n hx hb dX0_copyFrom_101 rfl (lv_at hl 1 rfl) ?_
  refine va_get (D := gD G) (ci := 0) (v := .int dC) (C := RX0) (T := TX0) (N := 10) hx hb hts i_X0 hown hB.1 hP 7 rfl rfl 6 (by decide) t_6 (fun _ h9 => h9) rfl dX0_copyFrom_102 ?_
  refine va_put (D := gD G) (ci := 0) (v := .int dC) (ty := .int) (C := RX0) (T := TX0) (N := 10) hx hb hts i_X0 tyX0 tyX0_ok nmX0 hown hB.1 hP hD hS 0 rfl rfl 6 (by decide) t_6 (fun _ h9 => h9) rfl (by decide +kernel) rfl rfl (Nat.le_of_ble_eq_true rfl) dX0_copyFrom_105 (fun H locs hP hD hS => ?_)
  have hP : va_P (gD G) vwCl [oX0 q_b q_bA q_bB q_bZ q_bG q_bP q_bQ dC bM bL bD, aI G q_bA 18 (f_X6_copy 0 0 18 dA bA 18 18), aI G q_bB 60 (f_X6_copy 0 0 60 dB bB 60 60), aI G q_bZ 45 (f_X6_copy 0 0 45 dZ bZ 45 45), aI G q_bG 24 (f_X6_copy 0 0 24 dG bG 24 24), aI G q_bP 3 (f_X6_copy 0 0 3 dP bP 3 3), aI G q_bQ 3 (f_X6_copy 0 0 3 dQ bQ 3 3), oX0 q_d q_dA q_dB q_dZ q_dG q_dP q_dQ dC dM dL dD, aI G q_dA 18 dA, aI G q_dB 60 dB, aI G q_dZ 45 dZ, aI G q_dG 24 dG, aI G q_dP 3 dP, aI G q_dQ 3 dQ] H := hP
  have hD : va_D A [oX0 q_b q_bA q_bB q_bZ q_bG q_bP q_bQ dC bM bL bD, aI G q_bA 18 (f_X6_copy 0 0 18 dA bA 18 18), aI G q_bB 60 (f_X6_copy 0 0 60 dB bB 60 60), aI G q_bZ 45 (f_X6_copy 0 0 45 dZ bZ 45 45), aI G q_bG 24 (f_X6_copy 0 0 24 dG bG 24 24), aI G q_bP 3 (f_X6_copy 0 0 3 dP bP 3 3), aI G q_bQ 3 (f_X6_copy 0 0 3 dQ bQ 3 3), oX0 q_d q_dA q_dB q_dZ q_dG q_dP q_dQ dC dM dL dD, aI G q_dA 18 dA, aI G q_dB 60 dB, aI G q_dZ 45 dZ, aI G q_dG 24 dG, aI G q_dP 3 dP, aI G q_dQ 3 dQ] := hD
  refine lv_aload_n hx hb dX0_copyFrom_108 rfl (lv_at hl 0 rfl) ?_
  refine lv_aload_n hx hb dX0_copyFrom_109 rfl (lv_at hl 1 rfl) ?_
  refine va_get (D := gD G) (ci := 0) (v := .int dM) (C := RX0) (T := TX0) (N := 10) hx hb hts i_X0 hown hB.1 hP 7 rfl rfl 7 (by decide) t_7 (fun _ h9 => h9) rfl dX0_copyFrom_110 ?_
  refine va_put (D := gD G) (ci := 0) (v := .int dM) (ty := .int) (C := RX0) (T := TX0) (N := 10) hx hb hts i_X0 tyX0 tyX0_ok nmX0 hown hB.1 hP hD hS 0 rfl rfl 7 (by decide) t_7 (fun _ h9 => h9) rfl (by decide +kernel) rfl rfl (Nat.le_of_ble_eq_true rfl) dX0_copyFrom_113 (fun H locs hP hD hS => ?_)
  have hP : va_P (gD G) vwCl [oX0 q_b q_bA q_bB q_bZ q_bG q_bP q_bQ dC dM bL bD, aI G q_bA 18 (f_X6_copy 0 0 18 dA bA 18 18), aI G q_bB 60 (f_X6_copy 0 0 60 dB bB 60 60), aI G q_bZ 45 (f_X6_copy 0 0 45 dZ bZ 45 45), aI G q_bG 24 (f_X6_copy 0 0 24 dG bG 24 24), aI G q_bP 3 (f_X6_copy 0 0 3 dP bP 3 3), aI G q_bQ 3 (f_X6_copy 0 0 3 dQ bQ 3 3), oX0 q_d q_dA q_dB q_dZ q_dG q_dP q_dQ dC dM dL dD, aI G q_dA 18 dA, aI G q_dB 60 dB, aI G q_dZ 45 dZ, aI G q_dG 24 dG, aI G q_dP 3 dP, aI G q_dQ 3 dQ] H := hP
  have hD : va_D A [oX0 q_b q_bA q_bB q_bZ q_bG q_bP q_bQ dC dM bL bD, aI G q_bA 18 (f_X6_copy 0 0 18 dA bA 18 18), aI G q_bB 60 (f_X6_copy 0 0 60 dB bB 60 60), aI G q_bZ 45 (f_X6_copy 0 0 45 dZ bZ 45 45), aI G q_bG 24 (f_X6_copy 0 0 24 dG bG 24 24), aI G q_bP 3 (f_X6_copy 0 0 3 dP bP 3 3), aI G q_bQ 3 (f_X6_copy 0 0 3 dQ bQ 3 3), oX0 q_d q_dA q_dB q_dZ q_dG q_dP q_dQ dC dM dL dD, aI G q_dA 18 dA, aI G q_dB 60 dB, aI G q_dZ 45 dZ, aI G q_dG 24 dG, aI G q_dP 3 dP, aI G q_dQ 3 dQ] := hD
  refine lv_aload_n hx hb dX0_copyFrom_116 rfl (lv_at hl 0 rfl) ?_
  refine lv_aload_n hx hb dX0_copyFrom_117 rfl (lv_at hl 1 rfl) ?_
  refine va_get (D := gD G) (ci := 0) (v := .int dL) (C := RX0) (T := TX0) (N := 10) hx hb hts i_X0 hown hB.1 hP 7 rfl rfl 8 (by decide) t_8 (fun _ h9 => h9) rfl dX0_copyFrom_118 ?_
  refine va_put (D := gD G) (ci := 0) (v := .int dL) (ty := .int) (C := RX0) (T := TX0) (N := 10) hx hb hts i_X0 tyX0 tyX0_ok nmX0 hown hB.1 hP hD hS 0 rfl rfl 8 (by decide) t_8 (fun _ h9 => h9) rfl (by decide +kernel) rfl rfl (Nat.le_of_ble_eq_true rfl) dX0_copyFrom_121 (fun H locs hP hD hS => ?_)
  have hP : va_P (gD G) vwCl [oX0 q_b q_bA q_bB q_bZ q_bG q_bP q_bQ dC dM dL bD, aI G q_bA 18 (f_X6_copy 0 0 18 dA bA 18 18), aI G q_bB 60 (f_X6_copy 0 0 60 dB bB 60 60), aI G q_bZ 45 (f_X6_copy 0 0 45 dZ bZ 45 45), aI G q_bG 24 (f_X6_copy 0 0 24 dG bG 24 24), aI G q_bP 3 (f_X6_copy 0 0 3 dP bP 3 3), aI G q_bQ 3 (f_X6_copy 0 0 3 dQ bQ 3 3), oX0 q_d q_dA q_dB q_dZ q_dG q_dP q_dQ dC dM dL dD, aI G q_dA 18 dA, aI G q_dB 60 dB, aI G q_dZ 45 dZ, aI G q_dG 24 dG, aI G q_dP 3 dP, aI G q_dQ 3 dQ] H := hP
  have hD : va_D A [oX0 q_b q_bA q_bB q_bZ q_bG q_bP q_bQ dC dM dL bD, aI G q_bA 18 (f_X6_copy 0 0 18 dA bA 18 18), aI G q_bB 60 (f_X6_copy 0 0 60 dB bB 60 60), aI G q_bZ 45 (f_X6_copy 0 0 45 dZ bZ 45 45), aI G q_bG 24 (f_X6_copy 0 0 24 dG bG 24 24), aI G q_bP 3 (f_X6_copy 0 0 3 dP bP 3 3), aI G q_bQ 3 (f_X6_copy 0 0 3 dQ bQ 3 3), oX0 q_d q_dA q_dB q_dZ q_dG q_dP q_dQ dC dM dL dD, aI G q_dA 18 dA, aI G q_dB 60 dB, aI G q_dZ 45 dZ, aI G q_dG 24 dG, aI G q_dP 3 dP, aI G q_dQ 3 dQ] := hD
  refine lv_aload_n hx hb dX0_copyFrom_124 rfl (lv_at hl 0 rfl) ?_
  refine lv_aload_n hx hb dX0_copyFrom_125 rfl (lv_at hl 1 rfl) ?_
  refine va_get (D := gD G) (ci := 0) (v := .int dD) (C := RX0) (T := TX0) (N := 10) hx hb hts i_X0 hown hB.1 hP 7 rfl rfl 9 (by decide) t_9 (fun _ h9 => h9) rfl dX0_copyFrom_126 ?_
  refine va_put (D := gD G) (ci := 0) (v := .int dD) (ty := .int) (C := RX0) (T := TX0) (N := 10) hx hb hts i_X0 tyX0 tyX0_ok nmX0 hown hB.1 hP hD hS 0 rfl rfl 9 (by decide) t_9 (fun _ h9 => h9) rfl (by decide +kernel) rfl rfl (Nat.le_of_ble_eq_true rfl) dX0_copyFrom_129 (fun H locs hP hD hS => ?_)
  have hP : va_P (gD G) vwCl [oX0 q_b q_bA q_bB q_bZ q_bG q_bP q_bQ dC dM dL dD, aI G q_bA 18 (f_X6_copy 0 0 18 dA bA 18 18), aI G q_bB 60 (f_X6_copy 0 0 60 dB bB 60 60), aI G q_bZ 45 (f_X6_copy 0 0 45 dZ bZ 45 45), aI G q_bG 24 (f_X6_copy 0 0 24 dG bG 24 24), aI G q_bP 3 (f_X6_copy 0 0 3 dP bP 3 3), aI G q_bQ 3 (f_X6_copy 0 0 3 dQ bQ 3 3), oX0 q_d q_dA q_dB q_dZ q_dG q_dP q_dQ dC dM dL dD, aI G q_dA 18 dA, aI G q_dB 60 dB, aI G q_dZ 45 dZ, aI G q_dG 24 dG, aI G q_dP 3 dP, aI G q_dQ 3 dQ] H := hP
  have hD : va_D A [oX0 q_b q_bA q_bB q_bZ q_bG q_bP q_bQ dC dM dL dD, aI G q_bA 18 (f_X6_copy 0 0 18 dA bA 18 18), aI G q_bB 60 (f_X6_copy 0 0 60 dB bB 60 60), aI G q_bZ 45 (f_X6_copy 0 0 45 dZ bZ 45 45), aI G q_bG 24 (f_X6_copy 0 0 24 dG bG 24 24), aI G q_bP 3 (f_X6_copy 0 0 3 dP bP 3 3), aI G q_bQ 3 (f_X6_copy 0 0 3 dQ bQ 3 3), oX0 q_d q_dA q_dB q_dZ q_dG q_dP q_dQ dC dM dL dD, aI G q_dA 18 dA, aI G q_dB 60 dB, aI G q_dZ 45 dZ, aI G q_dG 24 dG, aI G q_dP 3 dP, aI G q_dQ 3 dQ] := hD
  have e9 : f_X0_copyFrom bA bB bZ bG bP bQ dA dB dZ dG dP dQ dC dM dL dD = (f_X6_copy 0 0 18 dA bA 18 18, f_X6_copy 0 0 60 dB bB 60 60, f_X6_copy 0 0 45 dZ bZ 45 45, f_X6_copy 0 0 24 dG bG 24 24, f_X6_copy 0 0 3 dP bP 3 3, f_X6_copy 0 0 3 dQ bQ 3 3, dC, dM, dL, dD) := by rw [f_X0_copyFrom]
  exact fv 132 _ _ _ rfl dX0_copyFrom_132 rfl (by rw [e9]; exact hP) (by rw [e9]; exact hD) hS
