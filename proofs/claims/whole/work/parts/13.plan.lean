noncomputable def f_X1_keptCount (pK : Int32) : Int32 := pK
theorem hd_X1_keptCount : yX1_keptCount.cls ≠ "java/lang/invoke/MethodHandle" ∧ yX1_keptCount.cls ≠ "java/lang/invoke/VarHandle" ∧ (parseMethodDescriptor yX1_keptCount.desc).map (fun d => d.parameters.length) = some 0 := by decide +kernel
set_option maxHeartbeats 4000000 in
set_option maxRecDepth 100000 in
theorem c_X1_keptCount (l : Launch) (G : BGT) (q_p q_pS q_pE : Nat) (pN : Int32) (pK : Int32) : RO l yX1_keptCount wsX1_keptCount 0 G [oX1 q_p q_pS q_pE pN pK] [.ref q_p] (some (.int (f_X1_keptCount pK))) := by
  refine RO.ofW (cc := cX1_keptCount) (maxL := 1) (ret := (some .int)) (C := RX1) (by decide) rfl rfl (Nat.le_of_ble_eq_true rfl) ?_
  intro p e s m args below meth c Q ls hx hb hml hts hown hP hB hl fi fl fv
  have hS : va_S (fun _ => False) s.heap s.heap [] := va_S.rf
  have hl : lv_has ls 1 [(0, .ref q_p)] := hl
  have t_0 := hts (.fieldLink RX1 29 "ParcelSplit$Plan" "kept" "I") (by decide +kernel)
  have i_X1 : ∀ w ∈ wsX10, w ∈ wsX1_keptCount := by decide +kernel
  refine lv_aload_n hx hb dX1_keptCount_0 rfl (lv_at hl 0 rfl) ?_
  refine va_get (D := gD G) (ci := 1) (v := .int pK) (C := RX1) (T := TX1) (N := 4) hx hb hts i_X1 hown hB.1 hP 0 rfl rfl 3 (by decide) t_0 (fun _ h9 => h9) rfl dX1_keptCount_1 ?_
  exact fi 4 _ pK .int rfl rfl dX1_keptCount_4 (by rw [f_X1_keptCount])

noncomputable def f_X1_place (pS : Nat → Int32) : Int32 := (pS (Int32.toNatClampNeg 24))
theorem hd_X1_place : yX1_place.cls ≠ "java/lang/invoke/MethodHandle" ∧ yX1_place.cls ≠ "java/lang/invoke/VarHandle" ∧ (parseMethodDescriptor yX1_place.desc).map (fun d => d.parameters.length) = some 0 := by decide +kernel
set_option maxHeartbeats 4000000 in
set_option maxRecDepth 100000 in
theorem c_X1_place (l : Launch) (G : BGT) (q_p q_pS q_pE : Nat) (pN : Int32) (pK : Int32) (pS : Nat → Int32) : RO l yX1_place wsX1_place 0 G [oX1 q_p q_pS q_pE pN pK, aI G q_pS 26 pS] [.ref q_p] (some (.int (f_X1_place pS))) := by
  refine RO.ofW (cc := cX1_place) (maxL := 1) (ret := (some .int)) (C := RX1) (by decide) rfl rfl (Nat.le_of_ble_eq_true rfl) ?_
  intro p e s m args below meth c Q ls hx hb hml hts hown hP hB hl fi fl fv
  have hS : va_S (fun _ => False) s.heap s.heap [] := va_S.rf
  have hl : lv_has ls 1 [(0, .ref q_p)] := hl
  have t_0 := hts (.fieldLink RX1 11 "ParcelSplit$Plan" "state" "[I") (by decide +kernel)
  have i_X1 : ∀ w ∈ wsX10, w ∈ wsX1_place := by decide +kernel
  refine lv_aload_n hx hb dX1_place_0 rfl (lv_at hl 0 rfl) ?_
  refine va_get (D := gD G) (ci := 1) (v := .ref q_pS) (C := RX1) (T := TX1) (N := 4) hx hb hts i_X1 hown hB.1 hP 0 rfl rfl 0 (by decide) t_0 (fun _ h9 => h9) rfl dX1_place_1 ?_
  refine lv_bipush (v := 24) hx hb dX1_place_4 (by decide) ?_
  refine va_iald hx hb hB.1 hP 1 1 rfl rfl (by unfold vp_in; decide) dX1_place_6 ?_
  exact fi 7 _ (pS (Int32.toNatClampNeg 24)) .int rfl rfl dX1_place_7 (by rw [f_X1_place])

noncomputable def f_X1_day (pS : Nat → Int32) : Int32 := (pS (Int32.toNatClampNeg 25))
theorem hd_X1_day : yX1_day.cls ≠ "java/lang/invoke/MethodHandle" ∧ yX1_day.cls ≠ "java/lang/invoke/VarHandle" ∧ (parseMethodDescriptor yX1_day.desc).map (fun d => d.parameters.length) = some 0 := by decide +kernel
set_option maxHeartbeats 4000000 in
set_option maxRecDepth 100000 in
theorem c_X1_day (l : Launch) (G : BGT) (q_p q_pS q_pE : Nat) (pN : Int32) (pK : Int32) (pS : Nat → Int32) : RO l yX1_day wsX1_day 0 G [oX1 q_p q_pS q_pE pN pK, aI G q_pS 26 pS] [.ref q_p] (some (.int (f_X1_day pS))) := by
  refine RO.ofW (cc := cX1_day) (maxL := 1) (ret := (some .int)) (C := RX1) (by decide) rfl rfl (Nat.le_of_ble_eq_true rfl) ?_
  intro p e s m args below meth c Q ls hx hb hml hts hown hP hB hl fi fl fv
  have hS : va_S (fun _ => False) s.heap s.heap [] := va_S.rf
  have hl : lv_has ls 1 [(0, .ref q_p)] := hl
  have t_0 := hts (.fieldLink RX1 11 "ParcelSplit$Plan" "state" "[I") (by decide +kernel)
  have i_X1 : ∀ w ∈ wsX10, w ∈ wsX1_day := by decide +kernel
  refine lv_aload_n hx hb dX1_day_0 rfl (lv_at hl 0 rfl) ?_
  refine va_get (D := gD G) (ci := 1) (v := .ref q_pS) (C := RX1) (T := TX1) (N := 4) hx hb hts i_X1 hown hB.1 hP 0 rfl rfl 0 (by decide) t_0 (fun _ h9 => h9) rfl dX1_day_1 ?_
  refine lv_bipush (v := 25) hx hb dX1_day_4 (by decide) ?_
  refine va_iald hx hb hB.1 hP 1 1 rfl rfl (by unfold vp_in; decide) dX1_day_6 ?_
  exact fi 7 _ (pS (Int32.toNatClampNeg 25)) .int rfl rfl dX1_day_7 (by rw [f_X1_day])

noncomputable def f_X1_setOrder (x1 : Int32) (x2 : Int32) (pS : Nat → Int32) : (Nat → Int32) := (upd (upd pS (Int32.toNatClampNeg 24) x1) (Int32.toNatClampNeg 25) x2)
theorem hd_X1_setOrder : yX1_setOrder.cls ≠ "java/lang/invoke/MethodHandle" ∧ yX1_setOrder.cls ≠ "java/lang/invoke/VarHandle" ∧ (parseMethodDescriptor yX1_setOrder.desc).map (fun d => d.parameters.length) = some 2 := by decide +kernel
set_option maxHeartbeats 4000000 in
set_option maxRecDepth 100000 in
theorem c_X1_setOrder (l : Launch) (G : BGT) (q_p q_pS q_pE : Nat) (pN : Int32) (pK : Int32) (pS : Nat → Int32) (x1 : Int32) (x2 : Int32) : WR l yX1_setOrder wsX1_setOrder 0 G [oX1 q_p q_pS q_pE pN pK, aI G q_pS 26 pS] [oX1 q_p q_pS q_pE pN pK, aI G q_pS 26 (f_X1_setOrder x1 x2 pS)] [.ref q_p, .int x1, .int x2] none := by
  refine WR.ofW (cc := cX1_setOrder) (maxL := 3) (ret := none) (C := RX1) (by decide) rfl rfl (Nat.le_of_ble_eq_true rfl) ?_
  intro p e s m args below meth c Q ls A hx hb hml hts hown hP hD hS hA hB hl fi fv
  have hl : lv_has ls 3 [(0, .ref q_p), (1, .int x1), (2, .int x2)] := hl
  have t_0 := hts (.fieldLink RX1 11 "ParcelSplit$Plan" "state" "[I") (by decide +kernel)
  have i_X1 : ∀ w ∈ wsX10, w ∈ wsX1_setOrder := by decide +kernel
  refine lv_aload_n hx hb dX1_setOrder_0 rfl (lv_at hl 0 rfl) ?_
  refine va_get (D := gD G) (ci := 1) (v := .ref q_pS) (C := RX1) (T := TX1) (N := 4) hx hb hts i_X1 hown hB.1 hP 0 rfl rfl 0 (by decide) t_0 (fun _ h9 => h9) rfl dX1_setOrder_1 ?_
  refine lv_bipush (v := 24) hx hb dX1_setOrder_4 (by decide) ?_
  refine lv_iload_n hx hb dX1_setOrder_6 rfl (lv_at hl 1 rfl) ?_
  refine va_iast hx hb hB.1 hP hD hS 1 1 rfl rfl (by unfold vp_in; decide) dX1_setOrder_7 (fun H locs hP hD hS => ?_)
  have hP : va_P (gD G) vwCl [oX1 q_p q_pS q_pE pN pK, aI G q_pS 26 (upd pS (Int32.toNatClampNeg 24) x1)] H := hP
  have hD : va_D A [oX1 q_p q_pS q_pE pN pK, aI G q_pS 26 (upd pS (Int32.toNatClampNeg 24) x1)] := hD
  refine lv_aload_n hx hb dX1_setOrder_8 rfl (lv_at hl 0 rfl) ?_
  refine va_get (D := gD G) (ci := 1) (v := .ref q_pS) (C := RX1) (T := TX1) (N := 4) hx hb hts i_X1 hown hB.1 hP 0 rfl rfl 0 (by decide) t_0 (fun _ h9 => h9) rfl dX1_setOrder_9 ?_
  refine lv_bipush (v := 25) hx hb dX1_setOrder_12 (by decide) ?_
  refine lv_iload_n hx hb dX1_setOrder_14 rfl (lv_at hl 2 rfl) ?_
  refine va_iast hx hb hB.1 hP hD hS 1 1 rfl rfl (by unfold vp_in; decide) dX1_setOrder_15 (fun H locs hP hD hS => ?_)
  have hP : va_P (gD G) vwCl [oX1 q_p q_pS q_pE pN pK, aI G q_pS 26 (upd (upd pS (Int32.toNatClampNeg 24) x1) (Int32.toNatClampNeg 25) x2)] H := hP
  have hD : va_D A [oX1 q_p q_pS q_pE pN pK, aI G q_pS 26 (upd (upd pS (Int32.toNatClampNeg 24) x1) (Int32.toNatClampNeg 25) x2)] := hD
  have e9 : f_X1_setOrder x1 x2 pS = (upd (upd pS (Int32.toNatClampNeg 24) x1) (Int32.toNatClampNeg 25) x2) := by rw [f_X1_setOrder]
  exact fv 16 _ _ _ rfl dX1_setOrder_16 rfl (by rw [e9]; exact hP) (by rw [e9]; exact hD) hS

noncomputable def f_X1_parcelOf (x1 : Int32) (pS : Nat → Int32) : Int32 := (f_X6_at x1 pS 26)
theorem hd_X1_parcelOf : yX1_parcelOf.cls ≠ "java/lang/invoke/MethodHandle" ∧ yX1_parcelOf.cls ≠ "java/lang/invoke/VarHandle" ∧ (parseMethodDescriptor yX1_parcelOf.desc).map (fun d => d.parameters.length) = some 1 := by decide +kernel
set_option maxHeartbeats 4000000 in
set_option maxRecDepth 100000 in
theorem c_X1_parcelOf (l : Launch) (G : BGT) (q_p q_pS q_pE : Nat) (pN : Int32) (pK : Int32) (pS : Nat → Int32) (x1 : Int32) : RO l yX1_parcelOf wsX1_parcelOf 1 G [oX1 q_p q_pS q_pE pN pK, aI G q_pS 26 pS] [.ref q_p, .int x1] (some (.int (f_X1_parcelOf x1 pS))) := by
  refine RO.ofW (cc := cX1_parcelOf) (maxL := 2) (ret := (some .int)) (C := RX1) (by decide) rfl rfl (Nat.le_of_ble_eq_true rfl) ?_
  intro p e s m args below meth c Q ls hx hb hml hts hown hP hB hl fi fl fv
  have hS : va_S (fun _ => False) s.heap s.heap [] := va_S.rf
  have hl : lv_has ls 2 [(0, .ref q_p), (1, .int x1)] := hl
  have t_0 := hts (.fieldLink RX1 11 "ParcelSplit$Plan" "state" "[I") (by decide +kernel)
  have m_0 : Cond.initialized RX6 ∈ wsX1_parcelOf := by decide +kernel
  have m_1 : Cond.static yX6_at ∈ wsX1_parcelOf := by decide +kernel
  have i_X1 : ∀ w ∈ wsX10, w ∈ wsX1_parcelOf := by decide +kernel
  refine lv_aload_n hx hb dX1_parcelOf_0 rfl (lv_at hl 0 rfl) ?_
  refine va_get (D := gD G) (ci := 1) (v := .ref q_pS) (C := RX1) (T := TX1) (N := 4) hx hb hts i_X1 hown hB.1 hP 0 rfl rfl 0 (by decide) t_0 (fun _ h9 => h9) rfl dX1_parcelOf_1 ?_
  refine lv_iload_n hx hb dX1_parcelOf_4 rfl (lv_at hl 1 rfl) ?_
  refine ro_SN (As := [.ref q_pS, .int x1]) (rest := []) (c_X6_at l G 26 (by decide) q_pS pS x1) [1] rfl gX1_parcelOf_X6_at_n48 ⟨_, rfl⟩ hd_X6_at 11 rfl m_0 m_1 dX1_parcelOf_5 rfl rfl (Nat.le_of_ble_eq_true rfl) ⟨Nat.le_of_ble_eq_true rfl, Nat.le_of_ble_eq_true rfl⟩ ⟨Nat.le_refl 0, Nat.le_refl 0⟩ hx hb hml hown hts hB hS hP hl.1 ?_
  refine W.eq (g2 := F0 m 8 ls [.int (f_X6_at x1 pS 26)]) rfl ?_
  exact fi 8 _ (f_X6_at x1 pS 26) .int rfl rfl dX1_parcelOf_8 (by rw [f_X1_parcelOf])

noncomputable def f_X1_carrierOf (x1 : Int32) (pS : Nat → Int32) : Int32 := (f_X6_at (8 + x1) pS 26)
theorem hd_X1_carrierOf : yX1_carrierOf.cls ≠ "java/lang/invoke/MethodHandle" ∧ yX1_carrierOf.cls ≠ "java/lang/invoke/VarHandle" ∧ (parseMethodDescriptor yX1_carrierOf.desc).map (fun d => d.parameters.length) = some 1 := by decide +kernel
set_option maxHeartbeats 4000000 in
set_option maxRecDepth 100000 in
theorem c_X1_carrierOf (l : Launch) (G : BGT) (q_p q_pS q_pE : Nat) (pN : Int32) (pK : Int32) (pS : Nat → Int32) (x1 : Int32) : RO l yX1_carrierOf wsX1_carrierOf 1 G [oX1 q_p q_pS q_pE pN pK, aI G q_pS 26 pS] [.ref q_p, .int x1] (some (.int (f_X1_carrierOf x1 pS))) := by
  refine RO.ofW (cc := cX1_carrierOf) (maxL := 2) (ret := (some .int)) (C := RX1) (by decide) rfl rfl (Nat.le_of_ble_eq_true rfl) ?_
  intro p e s m args below meth c Q ls hx hb hml hts hown hP hB hl fi fl fv
  have hS : va_S (fun _ => False) s.heap s.heap [] := va_S.rf
  have hl : lv_has ls 2 [(0, .ref q_p), (1, .int x1)] := hl
  have t_0 := hts (.fieldLink RX1 11 "ParcelSplit$Plan" "state" "[I") (by decide +kernel)
  have m_0 : Cond.initialized RX6 ∈ wsX1_carrierOf := by decide +kernel
  have m_1 : Cond.static yX6_at ∈ wsX1_carrierOf := by decide +kernel
  have i_X1 : ∀ w ∈ wsX10, w ∈ wsX1_carrierOf := by decide +kernel
  refine lv_aload_n hx hb dX1_carrierOf_0 rfl (lv_at hl 0 rfl) ?_
  refine va_get (D := gD G) (ci := 1) (v := .ref q_pS) (C := RX1) (T := TX1) (N := 4) hx hb hts i_X1 hown hB.1 hP 0 rfl rfl 0 (by decide) t_0 (fun _ h9 => h9) rfl dX1_carrierOf_1 ?_
  refine lv_bipush (v := 8) hx hb dX1_carrierOf_4 (by decide) ?_
  refine lv_iload_n hx hb dX1_carrierOf_6 rfl (lv_at hl 1 rfl) ?_
  refine lv_iadd hx hb dX1_carrierOf_7 ?_
  refine ro_SN (As := [.ref q_pS, .int (8 + x1)]) (rest := []) (c_X6_at l G 26 (by decide) q_pS pS (8 + x1)) [1] rfl gX1_carrierOf_X6_at_n48 ⟨_, rfl⟩ hd_X6_at 11 rfl m_0 m_1 dX1_carrierOf_8 rfl rfl (Nat.le_of_ble_eq_true rfl) ⟨Nat.le_of_ble_eq_true rfl, Nat.le_of_ble_eq_true rfl⟩ ⟨Nat.le_refl 0, Nat.le_refl 0⟩ hx hb hml hown hts hB hS hP hl.1 ?_
  refine W.eq (g2 := F0 m 11 ls [.int (f_X6_at (8 + x1) pS 26)]) rfl ?_
  exact fi 11 _ (f_X6_at (8 + x1) pS 26) .int rfl rfl dX1_carrierOf_11 (by rw [f_X1_carrierOf])

noncomputable def f_X1_setCarrier (x1 : Int32) (x2 : Int32) (pS : Nat → Int32) : (Nat → Int32) := f_X6_store (8 + x1) x2 pS 26
theorem hd_X1_setCarrier : yX1_setCarrier.cls ≠ "java/lang/invoke/MethodHandle" ∧ yX1_setCarrier.cls ≠ "java/lang/invoke/VarHandle" ∧ (parseMethodDescriptor yX1_setCarrier.desc).map (fun d => d.parameters.length) = some 2 := by decide +kernel
set_option maxHeartbeats 4000000 in
set_option maxRecDepth 100000 in
theorem c_X1_setCarrier (l : Launch) (G : BGT) (q_p q_pS q_pE : Nat) (pN : Int32) (pK : Int32) (pS : Nat → Int32) (x1 : Int32) (x2 : Int32) : WR l yX1_setCarrier wsX1_setCarrier 1 G [oX1 q_p q_pS q_pE pN pK, aI G q_pS 26 pS] [oX1 q_p q_pS q_pE pN pK, aI G q_pS 26 (f_X1_setCarrier x1 x2 pS)] [.ref q_p, .int x1, .int x2] none := by
  refine WR.ofW (cc := cX1_setCarrier) (maxL := 3) (ret := none) (C := RX1) (by decide) rfl rfl (Nat.le_of_ble_eq_true rfl) ?_
  intro p e s m args below meth c Q ls A hx hb hml hts hown hP hD hS hA hB hl fi fv
  have hl : lv_has ls 3 [(0, .ref q_p), (1, .int x1), (2, .int x2)] := hl
  have t_0 := hts (.fieldLink RX1 11 "ParcelSplit$Plan" "state" "[I") (by decide +kernel)
  have m_0 : Cond.initialized RX6 ∈ wsX1_setCarrier := by decide +kernel
  have m_1 : Cond.static yX6_store ∈ wsX1_setCarrier := by decide +kernel
  have i_X1 : ∀ w ∈ wsX10, w ∈ wsX1_setCarrier := by decide +kernel
  refine lv_aload_n hx hb dX1_setCarrier_0 rfl (lv_at hl 0 rfl) ?_
  refine va_get (D := gD G) (ci := 1) (v := .ref q_pS) (C := RX1) (T := TX1) (N := 4) hx hb hts i_X1 hown hB.1 hP 0 rfl rfl 0 (by decide) t_0 (fun _ h9 => h9) rfl dX1_setCarrier_1 ?_
  refine lv_bipush (v := 8) hx hb dX1_setCarrier_4 (by decide) ?_
  refine lv_iload_n hx hb dX1_setCarrier_6 rfl (lv_at hl 1 rfl) ?_
  refine lv_iadd hx hb dX1_setCarrier_7 ?_
  refine lv_iload_n hx hb dX1_setCarrier_8 rfl (lv_at hl 2 rfl) ?_
  refine wr_SN (As := [.ref q_pS, .int (8 + x1), .int x2]) (rest := []) (wr := [oX1 q_p q_pS q_pE pN pK]) (wf := [oX1 q_p q_pS q_pE pN pK, aI G q_pS 26 (f_X6_store (8 + x1) x2 pS 26)]) (c_X6_store l G 26 (by decide) q_pS pS (8 + x1) x2) [1] [0] [0, 1] rfl rfl rfl (by decide) gX1_setCarrier_X6_store_n52 ⟨_, rfl⟩ hd_X6_store 8 rfl m_0 m_1 dX1_setCarrier_9 rfl rfl (Nat.le_of_ble_eq_true rfl) ⟨Nat.le_of_ble_eq_true rfl, Nat.le_of_ble_eq_true rfl⟩ ⟨Nat.le_refl 0, Nat.le_refl 0⟩ hx hb hml hown hts hB hD hS hA hP hl.1 (fun H locs hP hD hS => ?_)
  refine W.eq (g2 := F0 m 12 ls []) rfl ?_
  have e9 : f_X1_setCarrier x1 x2 pS = f_X6_store (8 + x1) x2 pS 26 := by rw [f_X1_setCarrier]
  exact fv 12 _ _ _ rfl dX1_setCarrier_12 rfl (by rw [e9]; exact hP) (by rw [e9]; exact hD) hS

noncomputable def f_X1_claimedOf (x1 : Int32) (pS : Nat → Int32) : Int32 := (f_X6_at (16 + x1) pS 26)
theorem hd_X1_claimedOf : yX1_claimedOf.cls ≠ "java/lang/invoke/MethodHandle" ∧ yX1_claimedOf.cls ≠ "java/lang/invoke/VarHandle" ∧ (parseMethodDescriptor yX1_claimedOf.desc).map (fun d => d.parameters.length) = some 1 := by decide +kernel
set_option maxHeartbeats 4000000 in
set_option maxRecDepth 100000 in
theorem c_X1_claimedOf (l : Launch) (G : BGT) (q_p q_pS q_pE : Nat) (pN : Int32) (pK : Int32) (pS : Nat → Int32) (x1 : Int32) : RO l yX1_claimedOf wsX1_claimedOf 1 G [oX1 q_p q_pS q_pE pN pK, aI G q_pS 26 pS] [.ref q_p, .int x1] (some (.int (f_X1_claimedOf x1 pS))) := by
  refine RO.ofW (cc := cX1_claimedOf) (maxL := 2) (ret := (some .int)) (C := RX1) (by decide) rfl rfl (Nat.le_of_ble_eq_true rfl) ?_
  intro p e s m args below meth c Q ls hx hb hml hts hown hP hB hl fi fl fv
  have hS : va_S (fun _ => False) s.heap s.heap [] := va_S.rf
  have hl : lv_has ls 2 [(0, .ref q_p), (1, .int x1)] := hl
  have t_0 := hts (.fieldLink RX1 11 "ParcelSplit$Plan" "state" "[I") (by decide +kernel)
  have m_0 : Cond.initialized RX6 ∈ wsX1_claimedOf := by decide +kernel
  have m_1 : Cond.static yX6_at ∈ wsX1_claimedOf := by decide +kernel
  have i_X1 : ∀ w ∈ wsX10, w ∈ wsX1_claimedOf := by decide +kernel
  refine lv_aload_n hx hb dX1_claimedOf_0 rfl (lv_at hl 0 rfl) ?_
  refine va_get (D := gD G) (ci := 1) (v := .ref q_pS) (C := RX1) (T := TX1) (N := 4) hx hb hts i_X1 hown hB.1 hP 0 rfl rfl 0 (by decide) t_0 (fun _ h9 => h9) rfl dX1_claimedOf_1 ?_
  refine lv_bipush (v := 16) hx hb dX1_claimedOf_4 (by decide) ?_
  refine lv_iload_n hx hb dX1_claimedOf_6 rfl (lv_at hl 1 rfl) ?_
  refine lv_iadd hx hb dX1_claimedOf_7 ?_
  refine ro_SN (As := [.ref q_pS, .int (16 + x1)]) (rest := []) (c_X6_at l G 26 (by decide) q_pS pS (16 + x1)) [1] rfl gX1_claimedOf_X6_at_n48 ⟨_, rfl⟩ hd_X6_at 11 rfl m_0 m_1 dX1_claimedOf_8 rfl rfl (Nat.le_of_ble_eq_true rfl) ⟨Nat.le_of_ble_eq_true rfl, Nat.le_of_ble_eq_true rfl⟩ ⟨Nat.le_refl 0, Nat.le_refl 0⟩ hx hb hml hown hts hB hS hP hl.1 ?_
  refine W.eq (g2 := F0 m 11 ls [.int (f_X6_at (16 + x1) pS 26)]) rfl ?_
  exact fi 11 _ (f_X6_at (16 + x1) pS 26) .int rfl rfl dX1_claimedOf_11 (by rw [f_X1_claimedOf])

noncomputable def f_X1_setClaimed (x1 : Int32) (x2 : Int32) (pS : Nat → Int32) : (Nat → Int32) := f_X6_store (16 + x1) x2 pS 26
theorem hd_X1_setClaimed : yX1_setClaimed.cls ≠ "java/lang/invoke/MethodHandle" ∧ yX1_setClaimed.cls ≠ "java/lang/invoke/VarHandle" ∧ (parseMethodDescriptor yX1_setClaimed.desc).map (fun d => d.parameters.length) = some 2 := by decide +kernel
set_option maxHeartbeats 4000000 in
set_option maxRecDepth 100000 in
theorem c_X1_setClaimed (l : Launch) (G : BGT) (q_p q_pS q_pE : Nat) (pN : Int32) (pK : Int32) (pS : Nat → Int32) (x1 : Int32) (x2 : Int32) : WR l yX1_setClaimed wsX1_setClaimed 1 G [oX1 q_p q_pS q_pE pN pK, aI G q_pS 26 pS] [oX1 q_p q_pS q_pE pN pK, aI G q_pS 26 (f_X1_setClaimed x1 x2 pS)] [.ref q_p, .int x1, .int x2] none := by
  refine WR.ofW (cc := cX1_setClaimed) (maxL := 3) (ret := none) (C := RX1) (by decide) rfl rfl (Nat.le_of_ble_eq_true rfl) ?_
  intro p e s m args below meth c Q ls A hx hb hml hts hown hP hD hS hA hB hl fi fv
  have hl : lv_has ls 3 [(0, .ref q_p), (1, .int x1), (2, .int x2)] := hl
  have t_0 := hts (.fieldLink RX1 11 "ParcelSplit$Plan" "state" "[I") (by decide +kernel)
  have m_0 : Cond.initialized RX6 ∈ wsX1_setClaimed := by decide +kernel
  have m_1 : Cond.static yX6_store ∈ wsX1_setClaimed := by decide +kernel
  have i_X1 : ∀ w ∈ wsX10, w ∈ wsX1_setClaimed := by decide +kernel
  refine lv_aload_n hx hb dX1_setClaimed_0 rfl (lv_at hl 0 rfl) ?_
  refine va_get (D := gD G) (ci := 1) (v := .ref q_pS) (C := RX1) (T := TX1) (N := 4) hx hb hts i_X1 hown hB.1 hP 0 rfl rfl 0 (by decide) t_0 (fun _ h9 => h9) rfl dX1_setClaimed_1 ?_
  refine lv_bipush (v := 16) hx hb dX1_setClaimed_4 (by decide) ?_
  refine lv_iload_n hx hb dX1_setClaimed_6 rfl (lv_at hl 1 rfl) ?_
  refine lv_iadd hx hb dX1_setClaimed_7 ?_
  refine lv_iload_n hx hb dX1_setClaimed_8 rfl (lv_at hl 2 rfl) ?_
  refine wr_SN (As := [.ref q_pS, .int (16 + x1), .int x2]) (rest := []) (wr := [oX1 q_p q_pS q_pE pN pK]) (wf := [oX1 q_p q_pS q_pE pN pK, aI G q_pS 26 (f_X6_store (16 + x1) x2 pS 26)]) (c_X6_store l G 26 (by decide) q_pS pS (16 + x1) x2) [1] [0] [0, 1] rfl rfl rfl (by decide) gX1_setClaimed_X6_store_n52 ⟨_, rfl⟩ hd_X6_store 8 rfl m_0 m_1 dX1_setClaimed_9 rfl rfl (Nat.le_of_ble_eq_true rfl) ⟨Nat.le_of_ble_eq_true rfl, Nat.le_of_ble_eq_true rfl⟩ ⟨Nat.le_refl 0, Nat.le_refl 0⟩ hx hb hml hown hts hB hD hS hA hP hl.1 (fun H locs hP hD hS => ?_)
  refine W.eq (g2 := F0 m 12 ls []) rfl ?_
  have e9 : f_X1_setClaimed x1 x2 pS = f_X6_store (16 + x1) x2 pS 26 := by rw [f_X1_setClaimed]
  exact fv 12 _ _ _ rfl dX1_setClaimed_12 rfl (by rw [e9]; exact hP) (by rw [e9]; exact hD) hS

noncomputable def f_X1_goodsIn_L4 (x1 : Int32) (pS : Nat → Int32) : Nat → Int32 → Int32 → Int32 × Int32
  | 0, v2, v3 => (v2, v3)
  | n + 1, v2, v3 => (if 8 ≤ v3 then (v2, v3) else (if (f_X1_parcelOf v3 pS) = x1 then f_X1_goodsIn_L4 x1 pS n (v2 ||| (1 <<< (v3 &&& 31))) (v3 + 1) else f_X1_goodsIn_L4 x1 pS n v2 (v3 + 1)))
noncomputable def k_X1_goodsIn_L4 (x1 : Int32) (pS : Nat → Int32) : Nat → Int32 → Int32 → Prop
  | 0, _, _ => False
  | n + 1, v2, v3 => (if 8 ≤ v3 then True else (if (f_X1_parcelOf v3 pS) = x1 then k_X1_goodsIn_L4 x1 pS n (v2 ||| (1 <<< (v3 &&& 31))) (v3 + 1) else k_X1_goodsIn_L4 x1 pS n v2 (v3 + 1)))
noncomputable def f_X1_goodsIn (x1 : Int32) (pS : Nat → Int32) : Int32 := ((f_X1_goodsIn_L4 x1 pS FU 0 0).1)
noncomputable def k_X1_goodsIn (x1 : Int32) (pS : Nat → Int32) : Prop := (k_X1_goodsIn_L4 x1 pS FU 0 0 ∧ True)
theorem hd_X1_goodsIn : yX1_goodsIn.cls ≠ "java/lang/invoke/MethodHandle" ∧ yX1_goodsIn.cls ≠ "java/lang/invoke/VarHandle" ∧ (parseMethodDescriptor yX1_goodsIn.desc).map (fun d => d.parameters.length) = some 1 := by decide +kernel
set_option maxHeartbeats 4000000 in
set_option maxRecDepth 100000 in
theorem c_X1_goodsIn (l : Launch) (G : BGT) (q_p q_pS q_pE : Nat) (pN : Int32) (pK : Int32) (pS : Nat → Int32) (x1 : Int32) (hk : k_X1_goodsIn x1 pS) : RO l yX1_goodsIn wsX1_goodsIn 2 G [oX1 q_p q_pS q_pE pN pK, aI G q_pS 26 pS] [.ref q_p, .int x1] (some (.int (f_X1_goodsIn x1 pS))) := by
  refine RO.ofW (cc := cX1_goodsIn) (maxL := 4) (ret := (some .int)) (C := RX1) (by decide) rfl rfl (Nat.le_of_ble_eq_true rfl) ?_
  intro p e s m args below meth c Q ls hx hb hml hts hown hP hB hl fi fl fv
  have hS : va_S (fun _ => False) s.heap s.heap [] := va_S.rf
  have hl : lv_has ls 4 [(0, .ref q_p), (1, .int x1)] := hl
  rw [k_X1_goodsIn] at hk
  refine lv_iconst (v := 0) hx hb dX1_goodsIn_0 (by decide) ?_
  refine lv_istore_n (lv' := [(2, .int 0), (0, .ref q_p), (1, .int x1)]) hx hb dX1_goodsIn_1 rfl hl (by decide) rfl (fun ls hl => ?_)
  refine lv_iconst (v := 0) hx hb dX1_goodsIn_2 (by decide) ?_
  refine lv_istore_n (lv' := [(3, .int 0), (2, .int 0), (0, .ref q_p), (1, .int x1)]) hx hb dX1_goodsIn_3 rfl hl (by decide) rfl (fun ls hl => ?_)
  have L4 : ∀ (n : Nat) (v2 : Int32) (v3 : Int32), k_X1_goodsIn_L4 x1 pS n v2 v3 → ∀ (ls : Array Slot), lv_has ls 4 [(0, .ref q_p), (1, .int x1), (2, .int v2), (3, .int v3)] → (∀ (ls : Array Slot), lv_has ls 4 [(0, .ref q_p), (1, .int x1), (2, .int ((f_X1_goodsIn_L4 x1 pS n v2 v3).1)), (3, .int ((f_X1_goodsIn_L4 x1 pS n v2 v3).2))] → W p l e (rm 2) s m args below meth c s.heap [] 0 0 Q (F0 m 31 ls [])) → W p l e (rm 2) s m args below meth c s.heap [] 0 0 Q (F0 m 4 ls []) := by
    intro n
    induction n with
    | zero => intro v2 v3 hk; exact (hk : False).elim
    | succ n ih =>
      intro v2 v3 hk ls hl kk
      rw [k_X1_goodsIn_L4] at hk
      refine lv_iload_n hx hb dX1_goodsIn_4 rfl (lv_at hl 3 rfl) ?_
      refine lv_bipush (v := 8) hx hb dX1_goodsIn_5 (by decide) ?_
      refine lv_icmp_ge (tgt := 31) hx hb dX1_goodsIn_7 (by decide) (fun c_1 => ?_) (fun c_1 => ?_)
      · rw [if_pos c_1] at hk
        have e9 : f_X1_goodsIn_L4 x1 pS (n + 1) v2 v3 = (v2, v3) := by rw [f_X1_goodsIn_L4, if_pos c_1]
        rw [e9] at kk
        exact kk ls (lv_sub hl [0, 1, 2, 3] rfl)
      · rw [if_neg c_1] at hk
        refine lv_aload_n hx hb dX1_goodsIn_10 rfl (lv_at hl 0 rfl) ?_
        refine lv_iload_n hx hb dX1_goodsIn_11 rfl (lv_at hl 3 rfl) ?_
        refine ro_V (ci := 1) (q0 := 0) (As := [.int v3]) (rest := []) (c_X1_parcelOf l G q_p q_pS q_pE pN pK pS v3) [0, 1] rfl rfl rfl rfl gX1_goodsIn_X1_parcelOf ⟨_, rfl⟩ hd_X1_parcelOf rfl dX1_goodsIn_12 rfl rfl (Nat.le_of_ble_eq_true rfl) ⟨Nat.le_of_ble_eq_true rfl, Nat.le_of_ble_eq_true rfl⟩ ⟨Nat.le_refl 0, Nat.le_refl 0⟩ hx hb hml hown hts hB hS hP hl.1 ?_
        refine W.eq (g2 := F0 m 15 ls [.int (f_X1_parcelOf v3 pS)]) rfl ?_
        refine lv_iload_n hx hb dX1_goodsIn_15 rfl (lv_at hl 1 rfl) ?_
        refine lv_icmp_ne (tgt := 25) hx hb dX1_goodsIn_16 (by decide) (fun c_2 => ?_) (fun c_2 => ?_)
        · rw [if_neg c_2] at hk
          refine lv_iinc (v := (v3 + 1)) (lv' := [(3, .int (v3 + 1)), (0, .ref q_p), (1, .int x1), (2, .int v2)]) hx hb dX1_goodsIn_25 hl (k := 3) rfl (by rfl) (by decide) rfl (fun ls hl => ?_)
          refine lv_goto (tgt := 4) hx hb dX1_goodsIn_28 (by decide) ?_
          have e9 : f_X1_goodsIn_L4 x1 pS (n + 1) v2 v3 = f_X1_goodsIn_L4 x1 pS n v2 (v3 + 1) := by rw [f_X1_goodsIn_L4, if_neg c_1, if_neg c_2]
          rw [e9] at kk
          exact ih v2 (v3 + 1) hk ls (lv_sub hl [1, 2, 3, 0] rfl) kk
        · rw [if_pos c_2] at hk
          refine lv_iload_n hx hb dX1_goodsIn_19 rfl (lv_at hl 2 rfl) ?_
          refine lv_iconst (v := 1) hx hb dX1_goodsIn_20 (by decide) ?_
          refine lv_iload_n hx hb dX1_goodsIn_21 rfl (lv_at hl 3 rfl) ?_
          refine lv_ishl hx hb dX1_goodsIn_22 ?_
          refine lv_ior hx hb dX1_goodsIn_23 ?_
          refine lv_istore_n (lv' := [(2, .int (v2 ||| (1 <<< (v3 &&& 31)))), (0, .ref q_p), (1, .int x1), (3, .int v3)]) hx hb dX1_goodsIn_24 rfl hl (by decide) rfl (fun ls hl => ?_)
          refine lv_iinc (v := (v3 + 1)) (lv' := [(3, .int (v3 + 1)), (2, .int (v2 ||| (1 <<< (v3 &&& 31)))), (0, .ref q_p), (1, .int x1)]) hx hb dX1_goodsIn_25 hl (k := 3) rfl (by rfl) (by decide) rfl (fun ls hl => ?_)
          refine lv_goto (tgt := 4) hx hb dX1_goodsIn_28 (by decide) ?_
          have e9 : f_X1_goodsIn_L4 x1 pS (n + 1) v2 v3 = f_X1_goodsIn_L4 x1 pS n (v2 ||| (1 <<< (v3 &&& 31))) (v3 + 1) := by rw [f_X1_goodsIn_L4, if_neg c_1, if_pos c_2]
          rw [e9] at kk
          exact ih (v2 ||| (1 <<< (v3 &&& 31))) (v3 + 1) hk ls (lv_sub hl [2, 3, 1, 0] rfl) kk
  obtain ⟨hkL, hk⟩ := hk
  refine L4 FU 0 0 hkL ls (lv_sub hl [2, 3, 1, 0] rfl) (fun ls hl => ?_)
  refine lv_iload_n hx hb dX1_goodsIn_31 rfl (lv_at hl 2 rfl) ?_
  exact fi 32 _ ((f_X1_goodsIn_L4 x1 pS FU 0 0).1) .int rfl rfl dX1_goodsIn_32 (by rw [f_X1_goodsIn])

noncomputable def f_X1_moveGood (x1 : Int32) (x2 : Int32) (pS : Nat → Int32) : (Nat → Int32) := (if (f_X1_parcelOf x1 pS) = (-1) then f_X6_store x1 x2 pS 26 else (if (f_X1_goodsIn (f_X1_parcelOf x1 pS) (f_X6_store x1 x2 pS 26)) = 0 then f_X1_setClaimed (f_X1_parcelOf x1 pS) 0 (f_X6_store x1 x2 pS 26) else f_X6_store x1 x2 pS 26))
noncomputable def k_X1_moveGood (x1 : Int32) (x2 : Int32) (pS : Nat → Int32) : Prop := (if (f_X1_parcelOf x1 pS) = (-1) then True else (k_X1_goodsIn (f_X1_parcelOf x1 pS) (f_X6_store x1 x2 pS 26) ∧ True))
theorem hd_X1_moveGood : yX1_moveGood.cls ≠ "java/lang/invoke/MethodHandle" ∧ yX1_moveGood.cls ≠ "java/lang/invoke/VarHandle" ∧ (parseMethodDescriptor yX1_moveGood.desc).map (fun d => d.parameters.length) = some 2 := by decide +kernel
set_option maxHeartbeats 4000000 in
set_option maxRecDepth 100000 in
theorem c_X1_moveGood (l : Launch) (G : BGT) (q_p q_pS q_pE : Nat) (pN : Int32) (pK : Int32) (pS : Nat → Int32) (x1 : Int32) (x2 : Int32) (hk : k_X1_moveGood x1 x2 pS) : WR l yX1_moveGood wsX1_moveGood 3 G [oX1 q_p q_pS q_pE pN pK, aI G q_pS 26 pS] [oX1 q_p q_pS q_pE pN pK, aI G q_pS 26 (f_X1_moveGood x1 x2 pS)] [.ref q_p, .int x1, .int x2] none := by
  refine WR.ofW (cc := cX1_moveGood) (maxL := 4) (ret := none) (C := RX1) (by decide) rfl rfl (Nat.le_of_ble_eq_true rfl) ?_
  intro p e s m args below meth c Q ls A hx hb hml hts hown hP hD hS hA hB hl fi fv
  have hl : lv_has ls 4 [(0, .ref q_p), (1, .int x1), (2, .int x2)] := hl
  have t_0 := hts (.fieldLink RX1 11 "ParcelSplit$Plan" "state" "[I") (by decide +kernel)
  have m_0 : Cond.initialized RX6 ∈ wsX1_moveGood := by decide +kernel
  have m_1 : Cond.static yX6_store ∈ wsX1_moveGood := by decide +kernel
  have i_X1 : ∀ w ∈ wsX10, w ∈ wsX1_moveGood := by decide +kernel
  rw [k_X1_moveGood] at hk
  refine lv_aload_n hx hb dX1_moveGood_0 rfl (lv_at hl 0 rfl) ?_
  refine lv_iload_n hx hb dX1_moveGood_1 rfl (lv_at hl 1 rfl) ?_
  refine ro_V (ci := 1) (q0 := 0) (As := [.int x1]) (rest := []) (c_X1_parcelOf l G q_p q_pS q_pE pN pK pS x1) [0, 1] rfl rfl rfl rfl gX1_moveGood_X1_parcelOf ⟨_, rfl⟩ hd_X1_parcelOf rfl dX1_moveGood_2 rfl rfl (Nat.le_of_ble_eq_true rfl) ⟨Nat.le_of_ble_eq_true rfl, Nat.le_of_ble_eq_true rfl⟩ ⟨Nat.le_refl 0, Nat.le_refl 0⟩ hx hb hml hown hts hB hS hP hl.1 ?_
  refine W.eq (g2 := F0 m 5 ls [.int (f_X1_parcelOf x1 pS)]) rfl ?_
  refine lv_istore_n (lv' := [(3, .int (f_X1_parcelOf x1 pS)), (0, .ref q_p), (1, .int x1), (2, .int x2)]) hx hb dX1_moveGood_5 rfl hl (by decide) rfl (fun ls hl => ?_)
  refine lv_aload_n hx hb dX1_moveGood_6 rfl (lv_at hl 1 rfl) ?_
  refine va_get (D := gD G) (ci := 1) (v := .ref q_pS) (C := RX1) (T := TX1) (N := 4) hx hb hts i_X1 hown hB.1 hP 0 rfl rfl 0 (by decide) t_0 (fun _ h9 => h9) rfl dX1_moveGood_7 ?_
  refine lv_iload_n hx hb dX1_moveGood_10 rfl (lv_at hl 2 rfl) ?_
  refine lv_iload_n hx hb dX1_moveGood_11 rfl (lv_at hl 3 rfl) ?_
  refine wr_SN (As := [.ref q_pS, .int x1, .int x2]) (rest := []) (wr := [oX1 q_p q_pS q_pE pN pK]) (wf := [oX1 q_p q_pS q_pE pN pK, aI G q_pS 26 (f_X6_store x1 x2 pS 26)]) (c_X6_store l G 26 (by decide) q_pS pS x1 x2) [1] [0] [0, 1] rfl rfl rfl (by decide) gX1_moveGood_X6_store_n52 ⟨_, rfl⟩ hd_X6_store 8 rfl m_0 m_1 dX1_moveGood_12 rfl rfl (Nat.le_of_ble_eq_true rfl) ⟨Nat.le_of_ble_eq_true rfl, Nat.le_of_ble_eq_true rfl⟩ ⟨Nat.le_refl 0, Nat.le_refl 0⟩ hx hb hml hown hts hB hD hS hA hP hl.1 (fun H locs hP hD hS => ?_)
  refine W.eq (g2 := F0 m 15 ls []) rfl ?_
  refine lv_iload_n hx hb dX1_moveGood_15 rfl (lv_at hl 0 rfl) ?_
  refine lv_iconst (v := (-1)) hx hb dX1_moveGood_16 (by decide) ?_
  refine lv_icmp_eq (tgt := 34) hx hb dX1_moveGood_17 (by decide) (fun c_1 => ?_) (fun c_1 => ?_)
  · rw [if_pos c_1] at hk
    have e9 : f_X1_moveGood x1 x2 pS = f_X6_store x1 x2 pS 26 := by rw [f_X1_moveGood, if_pos c_1]
    exact fv 34 _ _ _ rfl dX1_moveGood_34 rfl (by rw [e9]; exact hP) (by rw [e9]; exact hD) hS
  · rw [if_neg c_1] at hk
    refine lv_aload_n hx hb dX1_moveGood_20 rfl (lv_at hl 1 rfl) ?_
    refine lv_iload_n hx hb dX1_moveGood_21 rfl (lv_at hl 0 rfl) ?_
    obtain ⟨o_2, hk⟩ := hk
    refine ro_V (ci := 1) (q0 := 0) (As := [.int (f_X1_parcelOf x1 pS)]) (rest := []) (c_X1_goodsIn l G q_p q_pS q_pE pN pK (f_X6_store x1 x2 pS 26) (f_X1_parcelOf x1 pS) o_2) [0, 1] rfl rfl rfl rfl gX1_moveGood_X1_goodsIn ⟨_, rfl⟩ hd_X1_goodsIn rfl dX1_moveGood_22 rfl rfl (Nat.le_of_ble_eq_true rfl) ⟨Nat.le_of_ble_eq_true rfl, Nat.le_of_ble_eq_true rfl⟩ ⟨Nat.le_refl 0, Nat.le_refl 0⟩ hx hb hml hown hts hB hS hP hl.1 ?_
    refine W.eq (g2 := F0 m 25 ls [.int (f_X1_goodsIn (f_X1_parcelOf x1 pS) (f_X6_store x1 x2 pS 26))]) rfl ?_
    refine lv_if_ne (tgt := 34) hx hb dX1_moveGood_25 (by decide) (fun c_3 => ?_) (fun c_3 => ?_)
    · have e9 : f_X1_moveGood x1 x2 pS = f_X6_store x1 x2 pS 26 := by rw [f_X1_moveGood, if_neg c_1, if_neg c_3]
      exact fv 34 _ _ _ rfl dX1_moveGood_34 rfl (by rw [e9]; exact hP) (by rw [e9]; exact hD) hS
    · refine lv_aload_n hx hb dX1_moveGood_28 rfl (lv_at hl 1 rfl) ?_
      refine lv_iload_n hx hb dX1_moveGood_29 rfl (lv_at hl 0 rfl) ?_
      refine lv_iconst (v := 0) hx hb dX1_moveGood_30 (by decide) ?_
      refine wr_V (ci := 1) (q0 := 0) (As := [.int (f_X1_parcelOf x1 pS), .int 0]) (rest := []) (wr := []) (wf := [oX1 q_p q_pS q_pE pN pK, aI G q_pS 26 (f_X1_setClaimed (f_X1_parcelOf x1 pS) 0 (f_X6_store x1 x2 pS 26))]) (c_X1_setClaimed l G q_p q_pS q_pE pN pK (f_X6_store x1 x2 pS 26) (f_X1_parcelOf x1 pS) 0) [0, 1] [] [0, 1] rfl rfl rfl (by decide) rfl rfl rfl gX1_moveGood_X1_setClaimed ⟨_, rfl⟩ hd_X1_setClaimed rfl dX1_moveGood_31 rfl rfl (Nat.le_of_ble_eq_true rfl) ⟨Nat.le_of_ble_eq_true rfl, Nat.le_of_ble_eq_true rfl⟩ ⟨Nat.le_refl 0, Nat.le_refl 0⟩ hx hb hml hown hts hB hD hS hA hP hl.1 (fun H locs hP hD hS => ?_)
      refine W.eq (g2 := F0 m 34 ls []) rfl ?_
      have e9 : f_X1_moveGood x1 x2 pS = f_X1_setClaimed (f_X1_parcelOf x1 pS) 0 (f_X6_store x1 x2 pS 26) := by rw [f_X1_moveGood, if_neg c_1, if_pos c_3]
      exact fv 34 _ _ _ rfl dX1_moveGood_34 rfl (by rw [e9]; exact hP) (by rw [e9]; exact hD) hS

noncomputable def f_X1_packedGoods (pS : Nat → Int32) : Int32 := (255 &&& ((f_X1_goodsIn (-1) pS) ^^^ (-1)))
noncomputable def k_X1_packedGoods (pS : Nat → Int32) : Prop := (k_X1_goodsIn (-1) pS ∧ True)
theorem hd_X1_packedGoods : yX1_packedGoods.cls ≠ "java/lang/invoke/MethodHandle" ∧ yX1_packedGoods.cls ≠ "java/lang/invoke/VarHandle" ∧ (parseMethodDescriptor yX1_packedGoods.desc).map (fun d => d.parameters.length) = some 0 := by decide +kernel
set_option maxHeartbeats 4000000 in
set_option maxRecDepth 100000 in
theorem c_X1_packedGoods (l : Launch) (G : BGT) (q_p q_pS q_pE : Nat) (pN : Int32) (pK : Int32) (pS : Nat → Int32) (hk : k_X1_packedGoods pS) : RO l yX1_packedGoods wsX1_packedGoods 3 G [oX1 q_p q_pS q_pE pN pK, aI G q_pS 26 pS] [.ref q_p] (some (.int (f_X1_packedGoods pS))) := by
  refine RO.ofW (cc := cX1_packedGoods) (maxL := 1) (ret := (some .int)) (C := RX1) (by decide) rfl rfl (Nat.le_of_ble_eq_true rfl) ?_
  intro p e s m args below meth c Q ls hx hb hml hts hown hP hB hl fi fl fv
  have hS : va_S (fun _ => False) s.heap s.heap [] := va_S.rf
  have hl : lv_has ls 1 [(0, .ref q_p)] := hl
  rw [k_X1_packedGoods] at hk
  refine lv_sipush (v := 255) hx hb dX1_packedGoods_0 (by decide) ?_
  refine lv_aload_n hx hb dX1_packedGoods_3 rfl (lv_at hl 0 rfl) ?_
  refine lv_iconst (v := (-1)) hx hb dX1_packedGoods_4 (by decide) ?_
  obtain ⟨o_1, hk⟩ := hk
  refine ro_V (ci := 1) (q0 := 0) (As := [.int (-1)]) (rest := [.int 255]) (c_X1_goodsIn l G q_p q_pS q_pE pN pK pS (-1) o_1) [0, 1] rfl rfl rfl rfl gX1_packedGoods_X1_goodsIn ⟨_, rfl⟩ hd_X1_goodsIn rfl dX1_packedGoods_5 rfl rfl (Nat.le_of_ble_eq_true rfl) ⟨Nat.le_of_ble_eq_true rfl, Nat.le_of_ble_eq_true rfl⟩ ⟨Nat.le_refl 0, Nat.le_refl 0⟩ hx hb hml hown hts hB hS hP hl.1 ?_
  refine W.eq (g2 := F0 m 8 ls [.int (f_X1_goodsIn (-1) pS), .int 255]) rfl ?_
  refine lv_iconst (v := (-1)) hx hb dX1_packedGoods_8 (by decide) ?_
  refine lv_ixor hx hb dX1_packedGoods_9 ?_
  refine lv_iand hx hb dX1_packedGoods_10 ?_
  exact fi 11 _ (255 &&& ((f_X1_goodsIn (-1) pS) ^^^ (-1))) .int rfl rfl dX1_packedGoods_11 (by rw [f_X1_packedGoods])

noncomputable def f_X1_filledParcels_L4 (pS : Nat → Int32) : Nat → Int32 → Int32 → Int32 × Int32
  | 0, v1, v2 => (v1, v2)
  | n + 1, v1, v2 => (if 8 ≤ v2 then (v1, v2) else (if (f_X1_parcelOf v2 pS) = (-1) then f_X1_filledParcels_L4 pS n v1 (v2 + 1) else f_X1_filledParcels_L4 pS n (v1 ||| (1 <<< ((f_X1_parcelOf v2 pS) &&& 31))) (v2 + 1)))
noncomputable def k_X1_filledParcels_L4 (pS : Nat → Int32) : Nat → Int32 → Int32 → Prop
  | 0, _, _ => False
  | n + 1, v1, v2 => (if 8 ≤ v2 then True else (if (f_X1_parcelOf v2 pS) = (-1) then k_X1_filledParcels_L4 pS n v1 (v2 + 1) else k_X1_filledParcels_L4 pS n (v1 ||| (1 <<< ((f_X1_parcelOf v2 pS) &&& 31))) (v2 + 1)))
noncomputable def f_X1_filledParcels (pS : Nat → Int32) : Int32 := ((f_X1_filledParcels_L4 pS FU 0 0).1)
noncomputable def k_X1_filledParcels (pS : Nat → Int32) : Prop := (k_X1_filledParcels_L4 pS FU 0 0 ∧ True)
theorem hd_X1_filledParcels : yX1_filledParcels.cls ≠ "java/lang/invoke/MethodHandle" ∧ yX1_filledParcels.cls ≠ "java/lang/invoke/VarHandle" ∧ (parseMethodDescriptor yX1_filledParcels.desc).map (fun d => d.parameters.length) = some 0 := by decide +kernel
set_option maxHeartbeats 4000000 in
set_option maxRecDepth 100000 in
theorem c_X1_filledParcels (l : Launch) (G : BGT) (q_p q_pS q_pE : Nat) (pN : Int32) (pK : Int32) (pS : Nat → Int32) (hk : k_X1_filledParcels pS) : RO l yX1_filledParcels wsX1_filledParcels 2 G [oX1 q_p q_pS q_pE pN pK, aI G q_pS 26 pS] [.ref q_p] (some (.int (f_X1_filledParcels pS))) := by
  refine RO.ofW (cc := cX1_filledParcels) (maxL := 3) (ret := (some .int)) (C := RX1) (by decide) rfl rfl (Nat.le_of_ble_eq_true rfl) ?_
  intro p e s m args below meth c Q ls hx hb hml hts hown hP hB hl fi fl fv
  have hS : va_S (fun _ => False) s.heap s.heap [] := va_S.rf
  have hl : lv_has ls 3 [(0, .ref q_p)] := hl
  rw [k_X1_filledParcels] at hk
  refine lv_iconst (v := 0) hx hb dX1_filledParcels_0 (by decide) ?_
  refine lv_istore_n (lv' := [(1, .int 0), (0, .ref q_p)]) hx hb dX1_filledParcels_1 rfl hl (by decide) rfl (fun ls hl => ?_)
  refine lv_iconst (v := 0) hx hb dX1_filledParcels_2 (by decide) ?_
  refine lv_istore_n (lv' := [(2, .int 0), (1, .int 0), (0, .ref q_p)]) hx hb dX1_filledParcels_3 rfl hl (by decide) rfl (fun ls hl => ?_)
  have L4 : ∀ (n : Nat) (v1 : Int32) (v2 : Int32), k_X1_filledParcels_L4 pS n v1 v2 → ∀ (ls : Array Slot), lv_has ls 3 [(0, .ref q_p), (1, .int v1), (2, .int v2)] → (∀ (ls : Array Slot), lv_has ls 3 [(0, .ref q_p), (1, .int ((f_X1_filledParcels_L4 pS n v1 v2).1)), (2, .int ((f_X1_filledParcels_L4 pS n v1 v2).2))] → W p l e (rm 2) s m args below meth c s.heap [] 0 0 Q (F0 m 35 ls [])) → W p l e (rm 2) s m args below meth c s.heap [] 0 0 Q (F0 m 4 ls []) := by
    intro n
    induction n with
    | zero => intro v1 v2 hk; exact (hk : False).elim
    | succ n ih =>
      intro v1 v2 hk ls hl kk
      rw [k_X1_filledParcels_L4] at hk
      refine lv_iload_n hx hb dX1_filledParcels_4 rfl (lv_at hl 2 rfl) ?_
      refine lv_bipush (v := 8) hx hb dX1_filledParcels_5 (by decide) ?_
      refine lv_icmp_ge (tgt := 35) hx hb dX1_filledParcels_7 (by decide) (fun c_1 => ?_) (fun c_1 => ?_)
      · rw [if_pos c_1] at hk
        have e9 : f_X1_filledParcels_L4 pS (n + 1) v1 v2 = (v1, v2) := by rw [f_X1_filledParcels_L4, if_pos c_1]
        rw [e9] at kk
        exact kk ls (lv_sub hl [0, 1, 2] rfl)
      · rw [if_neg c_1] at hk
        refine lv_aload_n hx hb dX1_filledParcels_10 rfl (lv_at hl 0 rfl) ?_
        refine lv_iload_n hx hb dX1_filledParcels_11 rfl (lv_at hl 2 rfl) ?_
        refine ro_V (ci := 1) (q0 := 0) (As := [.int v2]) (rest := []) (c_X1_parcelOf l G q_p q_pS q_pE pN pK pS v2) [0, 1] rfl rfl rfl rfl gX1_filledParcels_X1_parcelOf ⟨_, rfl⟩ hd_X1_parcelOf rfl dX1_filledParcels_12 rfl rfl (Nat.le_of_ble_eq_true rfl) ⟨Nat.le_of_ble_eq_true rfl, Nat.le_of_ble_eq_true rfl⟩ ⟨Nat.le_refl 0, Nat.le_refl 0⟩ hx hb hml hown hts hB hS hP hl.1 ?_
        refine W.eq (g2 := F0 m 15 ls [.int (f_X1_parcelOf v2 pS)]) rfl ?_
        refine lv_iconst (v := (-1)) hx hb dX1_filledParcels_15 (by decide) ?_
        refine lv_icmp_eq (tgt := 29) hx hb dX1_filledParcels_16 (by decide) (fun c_2 => ?_) (fun c_2 => ?_)
        · rw [if_pos c_2] at hk
          refine lv_iinc (v := (v2 + 1)) (lv' := [(2, .int (v2 + 1)), (0, .ref q_p), (1, .int v1)]) hx hb dX1_filledParcels_29 hl (k := 2) rfl (by rfl) (by decide) rfl (fun ls hl => ?_)
          refine lv_goto (tgt := 4) hx hb dX1_filledParcels_32 (by decide) ?_
          have e9 : f_X1_filledParcels_L4 pS (n + 1) v1 v2 = f_X1_filledParcels_L4 pS n v1 (v2 + 1) := by rw [f_X1_filledParcels_L4, if_neg c_1, if_pos c_2]
          rw [e9] at kk
          exact ih v1 (v2 + 1) hk ls (lv_sub hl [1, 2, 0] rfl) kk
        · rw [if_neg c_2] at hk
          refine lv_iload_n hx hb dX1_filledParcels_19 rfl (lv_at hl 1 rfl) ?_
          refine lv_iconst (v := 1) hx hb dX1_filledParcels_20 (by decide) ?_
          refine lv_aload_n hx hb dX1_filledParcels_21 rfl (lv_at hl 0 rfl) ?_
          refine lv_iload_n hx hb dX1_filledParcels_22 rfl (lv_at hl 2 rfl) ?_
          refine ro_V (ci := 1) (q0 := 0) (As := [.int v2]) (rest := [.int 1, .int v1]) (c_X1_parcelOf l G q_p q_pS q_pE pN pK pS v2) [0, 1] rfl rfl rfl rfl gX1_filledParcels_X1_parcelOf ⟨_, rfl⟩ hd_X1_parcelOf rfl dX1_filledParcels_23 rfl rfl (Nat.le_of_ble_eq_true rfl) ⟨Nat.le_of_ble_eq_true rfl, Nat.le_of_ble_eq_true rfl⟩ ⟨Nat.le_refl 0, Nat.le_refl 0⟩ hx hb hml hown hts hB hS hP hl.1 ?_
          refine W.eq (g2 := F0 m 26 ls [.int (f_X1_parcelOf v2 pS), .int 1, .int v1]) rfl ?_
          refine lv_ishl hx hb dX1_filledParcels_26 ?_
          refine lv_ior hx hb dX1_filledParcels_27 ?_
          refine lv_istore_n (lv' := [(1, .int (v1 ||| (1 <<< ((f_X1_parcelOf v2 pS) &&& 31)))), (0, .ref q_p), (2, .int v2)]) hx hb dX1_filledParcels_28 rfl hl (by decide) rfl (fun ls hl => ?_)
          refine lv_iinc (v := (v2 + 1)) (lv' := [(2, .int (v2 + 1)), (1, .int (v1 ||| (1 <<< ((f_X1_parcelOf v2 pS) &&& 31)))), (0, .ref q_p)]) hx hb dX1_filledParcels_29 hl (k := 2) rfl (by rfl) (by decide) rfl (fun ls hl => ?_)
          refine lv_goto (tgt := 4) hx hb dX1_filledParcels_32 (by decide) ?_
          have e9 : f_X1_filledParcels_L4 pS (n + 1) v1 v2 = f_X1_filledParcels_L4 pS n (v1 ||| (1 <<< ((f_X1_parcelOf v2 pS) &&& 31))) (v2 + 1) := by rw [f_X1_filledParcels_L4, if_neg c_1, if_neg c_2]
          rw [e9] at kk
          exact ih (v1 ||| (1 <<< ((f_X1_parcelOf v2 pS) &&& 31))) (v2 + 1) hk ls (lv_sub hl [2, 1, 0] rfl) kk
  obtain ⟨hkL, hk⟩ := hk
  refine L4 FU 0 0 hkL ls (lv_sub hl [2, 1, 0] rfl) (fun ls hl => ?_)
  refine lv_iload_n hx hb dX1_filledParcels_35 rfl (lv_at hl 1 rfl) ?_
  exact fi 36 _ ((f_X1_filledParcels_L4 pS FU 0 0).1) .int rfl rfl dX1_filledParcels_36 (by rw [f_X1_filledParcels])

noncomputable def f_X1_unpack_L2 : Nat → Int32 → (Nat → Int32) → Int32 × (Nat → Int32)
  | 0, v1, w_pS => (v1, w_pS)
  | n + 1, v1, w_pS => (if 8 ≤ v1 then (v1, w_pS) else f_X1_unpack_L2  n (v1 + 1) (upd w_pS (Int32.toNatClampNeg v1) (-1)))
noncomputable def k_X1_unpack_L2 : Nat → Int32 → (Nat → Int32) → Prop
  | 0, _, _ => False
  | n + 1, v1, w_pS => (if 8 ≤ v1 then True else (vp_in v1 26 ∧ k_X1_unpack_L2  n (v1 + 1) (upd w_pS (Int32.toNatClampNeg v1) (-1))))
noncomputable def f_X1_unpack_L23 : Nat → Int32 → (Nat → Int32) → Int32 × (Nat → Int32)
  | 0, v1, w_pS => (v1, w_pS)
  | n + 1, v1, w_pS => (if 8 ≤ v1 then (v1, w_pS) else f_X1_unpack_L23  n (v1 + 1) (f_X1_setClaimed v1 0 (f_X1_setCarrier v1 0 w_pS)))
noncomputable def k_X1_unpack_L23 : Nat → Int32 → (Nat → Int32) → Prop
  | 0, _, _ => False
  | n + 1, v1, w_pS => (if 8 ≤ v1 then True else k_X1_unpack_L23  n (v1 + 1) (f_X1_setClaimed v1 0 (f_X1_setCarrier v1 0 w_pS)))
noncomputable def f_X1_unpack (pS : Nat → Int32) : (Nat → Int32) := ((f_X1_unpack_L23  FU 0 ((f_X1_unpack_L2  FU 0 pS).2)).2)
noncomputable def k_X1_unpack (pS : Nat → Int32) : Prop := (k_X1_unpack_L2  FU 0 pS ∧ (k_X1_unpack_L23  FU 0 ((f_X1_unpack_L2  FU 0 pS).2) ∧ True))
theorem hd_X1_unpack : yX1_unpack.cls ≠ "java/lang/invoke/MethodHandle" ∧ yX1_unpack.cls ≠ "java/lang/invoke/VarHandle" ∧ (parseMethodDescriptor yX1_unpack.desc).map (fun d => d.parameters.length) = some 0 := by decide +kernel
set_option maxHeartbeats 4000000 in
set_option maxRecDepth 100000 in
theorem c_X1_unpack (l : Launch) (G : BGT) (q_p q_pS q_pE : Nat) (pN : Int32) (pK : Int32) (pS : Nat → Int32) (hk : k_X1_unpack pS) : WR l yX1_unpack wsX1_unpack 2 G [oX1 q_p q_pS q_pE pN pK, aI G q_pS 26 pS] [oX1 q_p q_pS q_pE pN pK, aI G q_pS 26 (f_X1_unpack pS)] [.ref q_p] none := by
  refine WR.ofW (cc := cX1_unpack) (maxL := 2) (ret := none) (C := RX1) (by decide) rfl rfl (Nat.le_of_ble_eq_true rfl) ?_
  intro p e s m args below meth c Q ls A hx hb hml hts hown hP hD hS hA hB hl fi fv
  have hl : lv_has ls 2 [(0, .ref q_p)] := hl
  have t_0 := hts (.fieldLink RX1 11 "ParcelSplit$Plan" "state" "[I") (by decide +kernel)
  have i_X1 : ∀ w ∈ wsX10, w ∈ wsX1_unpack := by decide +kernel
  rw [k_X1_unpack] at hk
  refine lv_iconst (v := 0) hx hb dX1_unpack_0 (by decide) ?_
  refine lv_istore_n (lv' := [(1, .int 0), (0, .ref q_p)]) hx hb dX1_unpack_1 rfl hl (by decide) rfl (fun ls hl => ?_)
  have L2 : ∀ (n : Nat) (v1 : Int32) (w_pS : Nat → Int32), k_X1_unpack_L2  n v1 w_pS → ∀ (H : Heap) (locs : List Loc), va_P (gD G) vwCl [oX1 q_p q_pS q_pE pN pK, aI G q_pS 26 w_pS] H → va_D A [oX1 q_p q_pS q_pE pN pK, aI G q_pS 26 w_pS] → va_S A s.heap H locs → ∀ (ls : Array Slot), lv_has ls 2 [(0, .ref q_p), (1, .int v1)] → (∀ (H : Heap) (locs : List Loc), va_P (gD G) vwCl [oX1 q_p q_pS q_pE pN pK, aI G q_pS 26 ((f_X1_unpack_L2  n v1 w_pS).2)] H → va_D A [oX1 q_p q_pS q_pE pN pK, aI G q_pS 26 ((f_X1_unpack_L2  n v1 w_pS).2)] → va_S A s.heap H locs → ∀ (ls : Array Slot), lv_has ls 2 [(0, .ref q_p), (1, .int ((f_X1_unpack_L2  n v1 w_pS).1))] → W p l e (rm 2) s m args below meth c H locs 0 0 Q (F0 m 21 ls [])) → W p l e (rm 2) s m args below meth c H locs 0 0 Q (F0 m 2 ls []) := by
    intro n
    induction n with
    | zero => intro v1 w_pS hk; exact (hk : False).elim
    | succ n ih =>
      intro v1 w_pS hk H locs hP hD hS ls hl kk
      rw [k_X1_unpack_L2] at hk
      refine lv_iload_n hx hb dX1_unpack_2 rfl (lv_at hl 1 rfl) ?_
      refine lv_bipush (v := 8) hx hb dX1_unpack_3 (by decide) ?_
      refine lv_icmp_ge (tgt := 21) hx hb dX1_unpack_5 (by decide) (fun c_1 => ?_) (fun c_1 => ?_)
      · rw [if_pos c_1] at hk
        have e9 : f_X1_unpack_L2  (n + 1) v1 w_pS = (v1, w_pS) := by rw [f_X1_unpack_L2, if_pos c_1]
        rw [e9] at kk
        exact kk _ _ hP hD hS ls (lv_sub hl [0, 1] rfl)
      · rw [if_neg c_1] at hk
        refine lv_aload_n hx hb dX1_unpack_8 rfl (lv_at hl 0 rfl) ?_
        refine va_get (D := gD G) (ci := 1) (v := .ref q_pS) (C := RX1) (T := TX1) (N := 4) hx hb hts i_X1 hown hB.1 hP 0 rfl rfl 0 (by decide) t_0 (fun _ h9 => h9) rfl dX1_unpack_9 ?_
        refine lv_iload_n hx hb dX1_unpack_12 rfl (lv_at hl 1 rfl) ?_
        refine lv_iconst (v := (-1)) hx hb dX1_unpack_13 (by decide) ?_
        obtain ⟨o_2, hk⟩ := hk
        refine va_iast hx hb hB.1 hP hD hS 1 1 rfl rfl o_2 dX1_unpack_14 (fun H locs hP hD hS => ?_)
        have hP : va_P (gD G) vwCl [oX1 q_p q_pS q_pE pN pK, aI G q_pS 26 (upd w_pS (Int32.toNatClampNeg v1) (-1))] H := hP
        have hD : va_D A [oX1 q_p q_pS q_pE pN pK, aI G q_pS 26 (upd w_pS (Int32.toNatClampNeg v1) (-1))] := hD
        refine lv_iinc (v := (v1 + 1)) (lv' := [(1, .int (v1 + 1)), (0, .ref q_p)]) hx hb dX1_unpack_15 hl (k := 1) rfl (by rfl) (by decide) rfl (fun ls hl => ?_)
        refine lv_goto (tgt := 2) hx hb dX1_unpack_18 (by decide) ?_
        have e9 : f_X1_unpack_L2  (n + 1) v1 w_pS = f_X1_unpack_L2  n (v1 + 1) (upd w_pS (Int32.toNatClampNeg v1) (-1)) := by rw [f_X1_unpack_L2, if_neg c_1]
        rw [e9] at kk
        exact ih (v1 + 1) (upd w_pS (Int32.toNatClampNeg v1) (-1)) hk _ _ hP hD hS ls (lv_sub hl [1, 0] rfl) kk
  obtain ⟨hkL, hk⟩ := hk
  refine L2 FU 0 pS hkL _ _ hP hD hS ls (lv_sub hl [1, 0] rfl) (fun H locs hP hD hS ls hl => ?_)
  have hP : va_P (gD G) vwCl [oX1 q_p q_pS q_pE pN pK, aI G q_pS 26 ((f_X1_unpack_L2  FU 0 pS).2)] H := hP
  have hD : va_D A [oX1 q_p q_pS q_pE pN pK, aI G q_pS 26 ((f_X1_unpack_L2  FU 0 pS).2)] := hD
  refine lv_iconst (v := 0) hx hb dX1_unpack_21 (by decide) ?_
  refine lv_istore_n (lv' := [(1, .int 0), (0, .ref q_p)]) hx hb dX1_unpack_22 rfl hl (by decide) rfl (fun ls hl => ?_)
  have L23 : ∀ (n : Nat) (v1 : Int32) (w_pS : Nat → Int32), k_X1_unpack_L23  n v1 w_pS → ∀ (H : Heap) (locs : List Loc), va_P (gD G) vwCl [oX1 q_p q_pS q_pE pN pK, aI G q_pS 26 w_pS] H → va_D A [oX1 q_p q_pS q_pE pN pK, aI G q_pS 26 w_pS] → va_S A s.heap H locs → ∀ (ls : Array Slot), lv_has ls 2 [(0, .ref q_p), (1, .int v1)] → (∀ (H : Heap) (locs : List Loc), va_P (gD G) vwCl [oX1 q_p q_pS q_pE pN pK, aI G q_pS 26 ((f_X1_unpack_L23  n v1 w_pS).2)] H → va_D A [oX1 q_p q_pS q_pE pN pK, aI G q_pS 26 ((f_X1_unpack_L23  n v1 w_pS).2)] → va_S A s.heap H locs → ∀ (ls : Array Slot), lv_has ls 2 [(0, .ref q_p), (1, .int ((f_X1_unpack_L23  n v1 w_pS).1))] → W p l e (rm 2) s m args below meth c H locs 0 0 Q (F0 m 47 ls [])) → W p l e (rm 2) s m args below meth c H locs 0 0 Q (F0 m 23 ls []) := by
    intro n
    induction n with
    | zero => intro v1 w_pS hk; exact (hk : False).elim
    | succ n ih =>
      intro v1 w_pS hk H locs hP hD hS ls hl kk
      rw [k_X1_unpack_L23] at hk
      refine lv_iload_n hx hb dX1_unpack_23 rfl (lv_at hl 1 rfl) ?_
      refine lv_bipush (v := 8) hx hb dX1_unpack_24 (by decide) ?_
      refine lv_icmp_ge (tgt := 47) hx hb dX1_unpack_26 (by decide) (fun c_3 => ?_) (fun c_3 => ?_)
      · rw [if_pos c_3] at hk
        have e9 : f_X1_unpack_L23  (n + 1) v1 w_pS = (v1, w_pS) := by rw [f_X1_unpack_L23, if_pos c_3]
        rw [e9] at kk
        exact kk _ _ hP hD hS ls (lv_sub hl [0, 1] rfl)
      · rw [if_neg c_3] at hk
        refine lv_aload_n hx hb dX1_unpack_29 rfl (lv_at hl 0 rfl) ?_
        refine lv_iload_n hx hb dX1_unpack_30 rfl (lv_at hl 1 rfl) ?_
        refine lv_iconst (v := 0) hx hb dX1_unpack_31 (by decide) ?_
        refine wr_V (ci := 1) (q0 := 0) (As := [.int v1, .int 0]) (rest := []) (wr := []) (wf := [oX1 q_p q_pS q_pE pN pK, aI G q_pS 26 (f_X1_setCarrier v1 0 w_pS)]) (c_X1_setCarrier l G q_p q_pS q_pE pN pK w_pS v1 0) [0, 1] [] [0, 1] rfl rfl rfl (by decide) rfl rfl rfl gX1_unpack_X1_setCarrier ⟨_, rfl⟩ hd_X1_setCarrier rfl dX1_unpack_32 rfl rfl (Nat.le_of_ble_eq_true rfl) ⟨Nat.le_of_ble_eq_true rfl, Nat.le_of_ble_eq_true rfl⟩ ⟨Nat.le_refl 0, Nat.le_refl 0⟩ hx hb hml hown hts hB hD hS hA hP hl.1 (fun H locs hP hD hS => ?_)
        refine W.eq (g2 := F0 m 35 ls []) rfl ?_
        refine lv_aload_n hx hb dX1_unpack_35 rfl (lv_at hl 0 rfl) ?_
        refine lv_iload_n hx hb dX1_unpack_36 rfl (lv_at hl 1 rfl) ?_
        refine lv_iconst (v := 0) hx hb dX1_unpack_37 (by decide) ?_
        refine wr_V (ci := 1) (q0 := 0) (As := [.int v1, .int 0]) (rest := []) (wr := []) (wf := [oX1 q_p q_pS q_pE pN pK, aI G q_pS 26 (f_X1_setClaimed v1 0 (f_X1_setCarrier v1 0 w_pS))]) (c_X1_setClaimed l G q_p q_pS q_pE pN pK (f_X1_setCarrier v1 0 w_pS) v1 0) [0, 1] [] [0, 1] rfl rfl rfl (by decide) rfl rfl rfl gX1_unpack_X1_setClaimed ⟨_, rfl⟩ hd_X1_setClaimed rfl dX1_unpack_38 rfl rfl (Nat.le_of_ble_eq_true rfl) ⟨Nat.le_of_ble_eq_true rfl, Nat.le_of_ble_eq_true rfl⟩ ⟨Nat.le_refl 0, Nat.le_refl 0⟩ hx hb hml hown hts hB hD hS hA hP hl.1 (fun H locs hP hD hS => ?_)
        refine W.eq (g2 := F0 m 41 ls []) rfl ?_
        refine lv_iinc (v := (v1 + 1)) (lv' := [(1, .int (v1 + 1)), (0, .ref q_p)]) hx hb dX1_unpack_41 hl (k := 1) rfl (by rfl) (by decide) rfl (fun ls hl => ?_)
        refine lv_goto (tgt := 23) hx hb dX1_unpack_44 (by decide) ?_
        have e9 : f_X1_unpack_L23  (n + 1) v1 w_pS = f_X1_unpack_L23  n (v1 + 1) (f_X1_setClaimed v1 0 (f_X1_setCarrier v1 0 w_pS)) := by rw [f_X1_unpack_L23, if_neg c_3]
        rw [e9] at kk
        exact ih (v1 + 1) (f_X1_setClaimed v1 0 (f_X1_setCarrier v1 0 w_pS)) hk _ _ hP hD hS ls (lv_sub hl [1, 0] rfl) kk
  obtain ⟨hkL, hk⟩ := hk
  refine L23 FU 0 ((f_X1_unpack_L2  FU 0 pS).2) hkL _ _ hP hD hS ls (lv_sub hl [1, 0] rfl) (fun H locs hP hD hS ls hl => ?_)
  have hP : va_P (gD G) vwCl [oX1 q_p q_pS q_pE pN pK, aI G q_pS 26 ((f_X1_unpack_L23  FU 0 ((f_X1_unpack_L2  FU 0 pS).2)).2)] H := hP
  have hD : va_D A [oX1 q_p q_pS q_pE pN pK, aI G q_pS 26 ((f_X1_unpack_L23  FU 0 ((f_X1_unpack_L2  FU 0 pS).2)).2)] := hD
  have e9 : f_X1_unpack pS = ((f_X1_unpack_L23  FU 0 ((f_X1_unpack_L2  FU 0 pS).2)).2) := by rw [f_X1_unpack]
  exact fv 47 _ _ _ rfl dX1_unpack_47 rfl (by rw [e9]; exact hP) (by rw [e9]; exact hD) hS

noncomputable def f_X1_begin (x1 : Int32) (x2 : Int32) (pS : Nat → Int32) : (Nat → Int32) × Int32 × Int32 := (f_X1_setOrder x1 x2 (f_X1_unpack pS), 0, 0)
noncomputable def k_X1_begin (pS : Nat → Int32) : Prop := (k_X1_unpack pS ∧ True)
theorem hd_X1_begin : yX1_begin.cls ≠ "java/lang/invoke/MethodHandle" ∧ yX1_begin.cls ≠ "java/lang/invoke/VarHandle" ∧ (parseMethodDescriptor yX1_begin.desc).map (fun d => d.parameters.length) = some 2 := by decide +kernel
set_option maxHeartbeats 4000000 in
set_option maxRecDepth 100000 in
theorem c_X1_begin (l : Launch) (G : BGT) (q_p q_pS q_pE : Nat) (pN : Int32) (pK : Int32) (pS : Nat → Int32) (x1 : Int32) (x2 : Int32) (hk : k_X1_begin pS) : WR l yX1_begin wsX1_begin 3 G [oX1 q_p q_pS q_pE pN pK, aI G q_pS 26 pS] [oX1 q_p q_pS q_pE ((f_X1_begin x1 x2 pS).2.1) ((f_X1_begin x1 x2 pS).2.2), aI G q_pS 26 ((f_X1_begin x1 x2 pS).1)] [.ref q_p, .int x1, .int x2] none := by
  refine WR.ofW (cc := cX1_begin) (maxL := 3) (ret := none) (C := RX1) (by decide) rfl rfl (Nat.le_of_ble_eq_true rfl) ?_
  intro p e s m args below meth c Q ls A hx hb hml hts hown hP hD hS hA hB hl fi fv
  have hl : lv_has ls 3 [(0, .ref q_p), (1, .int x1), (2, .int x2)] := hl
  have t_0 := hts (.fieldLink RX1 25 "ParcelSplit$Plan" "next" "I") (by decide +kernel)
  have t_1 := hts (.fieldLink RX1 29 "ParcelSplit$Plan" "kept" "I") (by decide +kernel)
  have i_X1 : ∀ w ∈ wsX10, w ∈ wsX1_begin := by decide +kernel
  rw [k_X1_begin] at hk
  refine lv_aload_n hx hb dX1_begin_0 rfl (lv_at hl 0 rfl) ?_
  obtain ⟨o_1, hk⟩ := hk
  refine wr_V (ci := 1) (q0 := 0) (As := []) (rest := []) (wr := []) (wf := [oX1 q_p q_pS q_pE pN pK, aI G q_pS 26 (f_X1_unpack pS)]) (c_X1_unpack l G q_p q_pS q_pE pN pK pS o_1) [0, 1] [] [0, 1] rfl rfl rfl (by decide) rfl rfl rfl gX1_begin_X1_unpack ⟨_, rfl⟩ hd_X1_unpack rfl dX1_begin_1 rfl rfl (Nat.le_of_ble_eq_true rfl) ⟨Nat.le_of_ble_eq_true rfl, Nat.le_of_ble_eq_true rfl⟩ ⟨Nat.le_refl 0, Nat.le_refl 0⟩ hx hb hml hown hts hB hD hS hA hP hl.1 (fun H locs hP hD hS => ?_)
  refine W.eq (g2 := F0 m 4 ls []) rfl ?_
  refine lv_aload_n hx hb dX1_begin_4 rfl (lv_at hl 0 rfl) ?_
  refine lv_iload_n hx hb dX1_begin_5 rfl (lv_at hl 1 rfl) ?_
  refine lv_iload_n hx hb dX1_begin_6 rfl (lv_at hl 2 rfl) ?_
  refine wr_V (ci := 1) (q0 := 0) (As := [.int x1, .int x2]) (rest := []) (wr := []) (wf := [oX1 q_p q_pS q_pE pN pK, aI G q_pS 26 (f_X1_setOrder x1 x2 (f_X1_unpack pS))]) (c_X1_setOrder l G q_p q_pS q_pE pN pK (f_X1_unpack pS) x1 x2) [0, 1] [] [0, 1] rfl rfl rfl (by decide) rfl rfl rfl gX1_begin_X1_setOrder ⟨_, rfl⟩ hd_X1_setOrder rfl dX1_begin_7 rfl rfl (Nat.le_of_ble_eq_true rfl) ⟨Nat.le_of_ble_eq_true rfl, Nat.le_of_ble_eq_true rfl⟩ ⟨Nat.le_refl 0, Nat.le_refl 0⟩ hx hb hml hown hts hB hD hS hA hP hl.1 (fun H locs hP hD hS => ?_)
  refine W.eq (g2 := F0 m 10 ls []) rfl ?_
  refine lv_aload_n hx hb dX1_begin_10 rfl (lv_at hl 0 rfl) ?_
  refine lv_iconst (v := 0) hx hb dX1_begin_11 (by decide) ?_
  refine va_put (D := gD G) (ci := 1) (v := .int 0) (ty := .int) (C := RX1) (T := TX1) (N := 4) hx hb hts i_X1 tyX1 tyX1_ok nmX1 hown hB.1 hP hD hS 0 rfl rfl 2 (by decide) t_0 (fun _ h9 => h9) rfl (by decide +kernel) rfl rfl (Nat.le_of_ble_eq_true rfl) dX1_begin_12 (fun H locs hP hD hS => ?_)
  have hP : va_P (gD G) vwCl [oX1 q_p q_pS q_pE 0 pK, aI G q_pS 26 (f_X1_setOrder x1 x2 (f_X1_unpack pS))] H := hP
  have hD : va_D A [oX1 q_p q_pS q_pE 0 pK, aI G q_pS 26 (f_X1_setOrder x1 x2 (f_X1_unpack pS))] := hD
  refine lv_aload_n hx hb dX1_begin_15 rfl (lv_at hl 0 rfl) ?_
  refine lv_iconst (v := 0) hx hb dX1_begin_16 (by decide) ?_
  refine va_put (D := gD G) (ci := 1) (v := .int 0) (ty := .int) (C := RX1) (T := TX1) (N := 4) hx hb hts i_X1 tyX1 tyX1_ok nmX1 hown hB.1 hP hD hS 0 rfl rfl 3 (by decide) t_1 (fun _ h9 => h9) rfl (by decide +kernel) rfl rfl (Nat.le_of_ble_eq_true rfl) dX1_begin_17 (fun H locs hP hD hS => ?_)
  have hP : va_P (gD G) vwCl [oX1 q_p q_pS q_pE 0 0, aI G q_pS 26 (f_X1_setOrder x1 x2 (f_X1_unpack pS))] H := hP
  have hD : va_D A [oX1 q_p q_pS q_pE 0 0, aI G q_pS 26 (f_X1_setOrder x1 x2 (f_X1_unpack pS))] := hD
  have e9 : f_X1_begin x1 x2 pS = (f_X1_setOrder x1 x2 (f_X1_unpack pS), 0, 0) := by rw [f_X1_begin]
  exact fv 20 _ _ _ rfl dX1_begin_20 rfl (by rw [e9]; exact hP) (by rw [e9]; exact hD) hS

noncomputable def f_X1_keep (pS : Nat → Int32) (pE : Nat → Int32) (pN : Int32) (pK : Int32) : (Nat → Int32) × Int32 × Int32 := (f_X6_copy 0 (pN * 26) 26 pS pE 26 260, (jrem (pN + 1) 10), (jmin (pK + 1) 10))
noncomputable def k_X1_keep (pS : Nat → Int32) (pE : Nat → Int32) (pN : Int32) : Prop := (k_X6_copy 0 (pN * 26) 26 pS pE 26 260 ∧ True)
theorem hd_X1_keep : yX1_keep.cls ≠ "java/lang/invoke/MethodHandle" ∧ yX1_keep.cls ≠ "java/lang/invoke/VarHandle" ∧ (parseMethodDescriptor yX1_keep.desc).map (fun d => d.parameters.length) = some 0 := by decide +kernel
set_option maxHeartbeats 4000000 in
set_option maxRecDepth 100000 in
theorem c_X1_keep (l : Launch) (G : BGT) (q_p q_pS q_pE : Nat) (pN : Int32) (pK : Int32) (pS : Nat → Int32) (pE : Nat → Int32) (hk : k_X1_keep pS pE pN) : WR l yX1_keep wsX1_keep 2 G [oX1 q_p q_pS q_pE pN pK, aI G q_pS 26 pS, aI G q_pE 260 pE] [oX1 q_p q_pS q_pE ((f_X1_keep pS pE pN pK).2.1) ((f_X1_keep pS pE pN pK).2.2), aI G q_pS 26 pS, aI G q_pE 260 ((f_X1_keep pS pE pN pK).1)] [.ref q_p] none := by
  refine WR.ofW (cc := cX1_keep) (maxL := 1) (ret := none) (C := RX1) (by decide) rfl rfl (Nat.le_of_ble_eq_true rfl) ?_
  intro p e s m args below meth c Q ls A hx hb hml hts hown hP hD hS hA hB hl fi fv
  have hl : lv_has ls 1 [(0, .ref q_p)] := hl
  have t_0 := hts (.fieldLink RX1 11 "ParcelSplit$Plan" "state" "[I") (by decide +kernel)
  have t_1 := hts (.fieldLink RX1 15 "ParcelSplit$Plan" "earlier" "[I") (by decide +kernel)
  have t_2 := hts (.fieldLink RX1 25 "ParcelSplit$Plan" "next" "I") (by decide +kernel)
  have t_3 := hts (.fieldLink RX1 29 "ParcelSplit$Plan" "kept" "I") (by decide +kernel)
  have t_4 := hts (.methodLink RX1 42 Lib.Math.min.name) (by decide +kernel)
  have t_5 := hts (.static Lib.Math.min.name) (by decide +kernel)
  have t_6 := hts (.initialized "java/lang/Math") (by decide +kernel)
  have t_7 := hts (.code Lib.Math.min.name Lib.Math.min.code 2 (some .int)) (by decide +kernel)
  have m_0 : Cond.initialized RX6 ∈ wsX1_keep := by decide +kernel
  have m_1 : Cond.static yX6_copy ∈ wsX1_keep := by decide +kernel
  have i_X1 : ∀ w ∈ wsX10, w ∈ wsX1_keep := by decide +kernel
  rw [k_X1_keep] at hk
  refine lv_aload_n hx hb dX1_keep_0 rfl (lv_at hl 0 rfl) ?_
  refine va_get (D := gD G) (ci := 1) (v := .ref q_pS) (C := RX1) (T := TX1) (N := 4) hx hb hts i_X1 hown hB.1 hP 0 rfl rfl 0 (by decide) t_0 (fun _ h9 => h9) rfl dX1_keep_1 ?_
  refine lv_iconst (v := 0) hx hb dX1_keep_4 (by decide) ?_
  refine lv_aload_n hx hb dX1_keep_5 rfl (lv_at hl 0 rfl) ?_
  refine va_get (D := gD G) (ci := 1) (v := .ref q_pE) (C := RX1) (T := TX1) (N := 4) hx hb hts i_X1 hown hB.1 hP 0 rfl rfl 1 (by decide) t_1 (fun _ h9 => h9) rfl dX1_keep_6 ?_
  refine lv_aload_n hx hb dX1_keep_9 rfl (lv_at hl 0 rfl) ?_
  refine va_get (D := gD G) (ci := 1) (v := .int pN) (C := RX1) (T := TX1) (N := 4) hx hb hts i_X1 hown hB.1 hP 0 rfl rfl 2 (by decide) t_2 (fun _ h9 => h9) rfl dX1_keep_10 ?_
  refine lv_bipush (v := 26) hx hb dX1_keep_13 (by decide) ?_
  refine lv_imul hx hb dX1_keep_15 ?_
  refine lv_bipush (v := 26) hx hb dX1_keep_16 (by decide) ?_
  obtain ⟨o_1, hk⟩ := hk
  refine wr_SN (As := [.ref q_pS, .int 0, .ref q_pE, .int (pN * 26), .int 26]) (rest := []) (wr := [oX1 q_p q_pS q_pE pN pK]) (wf := [oX1 q_p q_pS q_pE pN pK, aI G q_pS 26 pS, aI G q_pE 260 (f_X6_copy 0 (pN * 26) 26 pS pE 26 260)]) (c_X6_copy l G 26 260 (by decide) (by decide) q_pS q_pE pS pE 0 (pN * 26) 26 o_1) [1, 2] [0] [0, 1, 2] rfl rfl rfl (by decide) gX1_keep_X6_copy_n38 ⟨_, rfl⟩ hd_X6_copy 14 rfl m_0 m_1 dX1_keep_18 rfl rfl (Nat.le_of_ble_eq_true rfl) ⟨Nat.le_of_ble_eq_true rfl, Nat.le_of_ble_eq_true rfl⟩ ⟨Nat.le_refl 0, Nat.le_refl 0⟩ hx hb hml hown hts hB hD hS hA hP hl.1 (fun H locs hP hD hS => ?_)
  refine W.eq (g2 := F0 m 21 ls []) rfl ?_
  refine lv_aload_n hx hb dX1_keep_21 rfl (lv_at hl 0 rfl) ?_
  refine lv_aload_n hx hb dX1_keep_22 rfl (lv_at hl 0 rfl) ?_
  refine va_get (D := gD G) (ci := 1) (v := .int pN) (C := RX1) (T := TX1) (N := 4) hx hb hts i_X1 hown hB.1 hP 0 rfl rfl 2 (by decide) t_2 (fun _ h9 => h9) rfl dX1_keep_23 ?_
  refine lv_iconst (v := 1) hx hb dX1_keep_26 (by decide) ?_
  refine lv_iadd hx hb dX1_keep_27 ?_
  refine lv_bipush (v := 10) hx hb dX1_keep_28 (by decide) ?_
  refine lv_irem hx hb dX1_keep_30 (by decide) ?_
  refine W.eq (g2 := F0 m 31 ls [.int (jrem (pN + 1) 10), .ref q_p]) rfl ?_
  refine va_put (D := gD G) (ci := 1) (v := .int (jrem (pN + 1) 10)) (ty := .int) (C := RX1) (T := TX1) (N := 4) hx hb hts i_X1 tyX1 tyX1_ok nmX1 hown hB.1 hP hD hS 0 rfl rfl 2 (by decide) t_2 (fun _ h9 => h9) rfl (by decide +kernel) rfl rfl (Nat.le_of_ble_eq_true rfl) dX1_keep_31 (fun H locs hP hD hS => ?_)
  have hP : va_P (gD G) vwCl [oX1 q_p q_pS q_pE (jrem (pN + 1) 10) pK, aI G q_pS 26 pS, aI G q_pE 260 (f_X6_copy 0 (pN * 26) 26 pS pE 26 260)] H := hP
  have hD : va_D A [oX1 q_p q_pS q_pE (jrem (pN + 1) 10) pK, aI G q_pS 26 pS, aI G q_pE 260 (f_X6_copy 0 (pN * 26) 26 pS pE 26 260)] := hD
  refine lv_aload_n hx hb dX1_keep_34 rfl (lv_at hl 0 rfl) ?_
  refine lv_aload_n hx hb dX1_keep_35 rfl (lv_at hl 0 rfl) ?_
  refine va_get (D := gD G) (ci := 1) (v := .int pK) (C := RX1) (T := TX1) (N := 4) hx hb hts i_X1 hown hB.1 hP 0 rfl rfl 3 (by decide) t_3 (fun _ h9 => h9) rfl dX1_keep_36 ?_
  refine lv_iconst (v := 1) hx hb dX1_keep_39 (by decide) ?_
  refine lv_iadd hx hb dX1_keep_40 ?_
  refine lv_bipush (v := 10) hx hb dX1_keep_41 (by decide) ?_
  refine va_mmin hx hb (hml.trans hl.1.symm) hown t_4 t_5 t_6 t_7 (Nat.le_of_ble_eq_true rfl) (Nat.le_of_ble_eq_true rfl) (Nat.le_of_ble_eq_true rfl) (Nat.le_of_ble_eq_true rfl) dX1_keep_43 ?_
  refine W.eq (g2 := F0 m 46 ls [.int (jmin (pK + 1) 10), .ref q_p]) rfl ?_
  refine va_put (D := gD G) (ci := 1) (v := .int (jmin (pK + 1) 10)) (ty := .int) (C := RX1) (T := TX1) (N := 4) hx hb hts i_X1 tyX1 tyX1_ok nmX1 hown hB.1 hP hD hS 0 rfl rfl 3 (by decide) t_3 (fun _ h9 => h9) rfl (by decide +kernel) rfl rfl (Nat.le_of_ble_eq_true rfl) dX1_keep_46 (fun H locs hP hD hS => ?_)
  have hP : va_P (gD G) vwCl [oX1 q_p q_pS q_pE (jrem (pN + 1) 10) (jmin (pK + 1) 10), aI G q_pS 26 pS, aI G q_pE 260 (f_X6_copy 0 (pN * 26) 26 pS pE 26 260)] H := hP
  have hD : va_D A [oX1 q_p q_pS q_pE (jrem (pN + 1) 10) (jmin (pK + 1) 10), aI G q_pS 26 pS, aI G q_pE 260 (f_X6_copy 0 (pN * 26) 26 pS pE 26 260)] := hD
  have e9 : f_X1_keep pS pE pN pK = (f_X6_copy 0 (pN * 26) 26 pS pE 26 260, (jrem (pN + 1) 10), (jmin (pK + 1) 10)) := by rw [f_X1_keep]
  exact fv 49 _ _ _ rfl dX1_keep_49 rfl (by rw [e9]; exact hP) (by rw [e9]; exact hD) hS

noncomputable def f_X1_goBack (pS : Nat → Int32) (pE : Nat → Int32) (pN : Int32) (pK : Int32) : Int32 × (Nat → Int32) × Int32 × Int32 := (if 1 ≤ pK then (1, f_X6_copy ((jrem ((pN + 10) - 1) 10) * 26) 0 26 pE pS 260 26, (jrem ((pN + 10) - 1) 10), (pK - 1)) else (0, pS, pN, pK))
noncomputable def k_X1_goBack (pS : Nat → Int32) (pE : Nat → Int32) (pN : Int32) (pK : Int32) : Prop := (if 1 ≤ pK then (k_X6_copy ((jrem ((pN + 10) - 1) 10) * 26) 0 26 pE pS 260 26 ∧ True) else True)
theorem hd_X1_goBack : yX1_goBack.cls ≠ "java/lang/invoke/MethodHandle" ∧ yX1_goBack.cls ≠ "java/lang/invoke/VarHandle" ∧ (parseMethodDescriptor yX1_goBack.desc).map (fun d => d.parameters.length) = some 0 := by decide +kernel
set_option maxHeartbeats 4000000 in
set_option maxRecDepth 100000 in
theorem c_X1_goBack (l : Launch) (G : BGT) (q_p q_pS q_pE : Nat) (pN : Int32) (pK : Int32) (pS : Nat → Int32) (pE : Nat → Int32) (hk : k_X1_goBack pS pE pN pK) : WR l yX1_goBack wsX1_goBack 2 G [oX1 q_p q_pS q_pE pN pK, aI G q_pS 26 pS, aI G q_pE 260 pE] [oX1 q_p q_pS q_pE ((f_X1_goBack pS pE pN pK).2.2.1) ((f_X1_goBack pS pE pN pK).2.2.2), aI G q_pS 26 ((f_X1_goBack pS pE pN pK).2.1), aI G q_pE 260 pE] [.ref q_p] (some (.int ((f_X1_goBack pS pE pN pK).1))) := by
  refine WR.ofW (cc := cX1_goBack) (maxL := 1) (ret := (some .boolean)) (C := RX1) (by decide) rfl rfl (Nat.le_of_ble_eq_true rfl) ?_
  intro p e s m args below meth c Q ls A hx hb hml hts hown hP hD hS hA hB hl fi fv
  have hl : lv_has ls 1 [(0, .ref q_p)] := hl
  have t_0 := hts (.fieldLink RX1 29 "ParcelSplit$Plan" "kept" "I") (by decide +kernel)
  have t_1 := hts (.fieldLink RX1 25 "ParcelSplit$Plan" "next" "I") (by decide +kernel)
  have t_2 := hts (.fieldLink RX1 15 "ParcelSplit$Plan" "earlier" "[I") (by decide +kernel)
  have t_3 := hts (.fieldLink RX1 11 "ParcelSplit$Plan" "state" "[I") (by decide +kernel)
  have m_0 : Cond.initialized RX6 ∈ wsX1_goBack := by decide +kernel
  have m_1 : Cond.static yX6_copy ∈ wsX1_goBack := by decide +kernel
  have i_X1 : ∀ w ∈ wsX10, w ∈ wsX1_goBack := by decide +kernel
  rw [k_X1_goBack] at hk
  refine lv_aload_n hx hb dX1_goBack_0 rfl (lv_at hl 0 rfl) ?_
  refine va_get (D := gD G) (ci := 1) (v := .int pK) (C := RX1) (T := TX1) (N := 4) hx hb hts i_X1 hown hB.1 hP 0 rfl rfl 3 (by decide) t_0 (fun _ h9 => h9) rfl dX1_goBack_1 ?_
  refine lv_iconst (v := 1) hx hb dX1_goBack_4 (by decide) ?_
  refine lv_icmp_ge (tgt := 10) hx hb dX1_goBack_5 (by decide) (fun c_1 => ?_) (fun c_1 => ?_)
  · rw [if_pos c_1] at hk
    refine lv_aload_n hx hb dX1_goBack_10 rfl (lv_at hl 0 rfl) ?_
    refine lv_aload_n hx hb dX1_goBack_11 rfl (lv_at hl 0 rfl) ?_
    refine va_get (D := gD G) (ci := 1) (v := .int pN) (C := RX1) (T := TX1) (N := 4) hx hb hts i_X1 hown hB.1 hP 0 rfl rfl 2 (by decide) t_1 (fun _ h9 => h9) rfl dX1_goBack_12 ?_
    refine lv_bipush (v := 10) hx hb dX1_goBack_15 (by decide) ?_
    refine lv_iadd hx hb dX1_goBack_17 ?_
    refine lv_iconst (v := 1) hx hb dX1_goBack_18 (by decide) ?_
    refine lv_isub hx hb dX1_goBack_19 ?_
    refine lv_bipush (v := 10) hx hb dX1_goBack_20 (by decide) ?_
    refine lv_irem hx hb dX1_goBack_22 (by decide) ?_
    refine W.eq (g2 := F0 m 23 ls [.int (jrem ((pN + 10) - 1) 10), .ref q_p]) rfl ?_
    refine va_put (D := gD G) (ci := 1) (v := .int (jrem ((pN + 10) - 1) 10)) (ty := .int) (C := RX1) (T := TX1) (N := 4) hx hb hts i_X1 tyX1 tyX1_ok nmX1 hown hB.1 hP hD hS 0 rfl rfl 2 (by decide) t_1 (fun _ h9 => h9) rfl (by decide +kernel) rfl rfl (Nat.le_of_ble_eq_true rfl) dX1_goBack_23 (fun H locs hP hD hS => ?_)
    have hP : va_P (gD G) vwCl [oX1 q_p q_pS q_pE (jrem ((pN + 10) - 1) 10) pK, aI G q_pS 26 pS, aI G q_pE 260 pE] H := hP
    have hD : va_D A [oX1 q_p q_pS q_pE (jrem ((pN + 10) - 1) 10) pK, aI G q_pS 26 pS, aI G q_pE 260 pE] := hD
    refine lv_aload_n hx hb dX1_goBack_26 rfl (lv_at hl 0 rfl) ?_
    refine lv_dup hx hb dX1_goBack_27 rfl ?_
    refine va_get (D := gD G) (ci := 1) (v := .int pK) (C := RX1) (T := TX1) (N := 4) hx hb hts i_X1 hown hB.1 hP 0 rfl rfl 3 (by decide) t_0 (fun _ h9 => h9) rfl dX1_goBack_28 ?_
    refine lv_iconst (v := 1) hx hb dX1_goBack_31 (by decide) ?_
    refine lv_isub hx hb dX1_goBack_32 ?_
    refine va_put (D := gD G) (ci := 1) (v := .int (pK - 1)) (ty := .int) (C := RX1) (T := TX1) (N := 4) hx hb hts i_X1 tyX1 tyX1_ok nmX1 hown hB.1 hP hD hS 0 rfl rfl 3 (by decide) t_0 (fun _ h9 => h9) rfl (by decide +kernel) rfl rfl (Nat.le_of_ble_eq_true rfl) dX1_goBack_33 (fun H locs hP hD hS => ?_)
    have hP : va_P (gD G) vwCl [oX1 q_p q_pS q_pE (jrem ((pN + 10) - 1) 10) (pK - 1), aI G q_pS 26 pS, aI G q_pE 260 pE] H := hP
    have hD : va_D A [oX1 q_p q_pS q_pE (jrem ((pN + 10) - 1) 10) (pK - 1), aI G q_pS 26 pS, aI G q_pE 260 pE] := hD
    refine lv_aload_n hx hb dX1_goBack_36 rfl (lv_at hl 0 rfl) ?_
    refine va_get (D := gD G) (ci := 1) (v := .ref q_pE) (C := RX1) (T := TX1) (N := 4) hx hb hts i_X1 hown hB.1 hP 0 rfl rfl 1 (by decide) t_2 (fun _ h9 => h9) rfl dX1_goBack_37 ?_
    refine lv_aload_n hx hb dX1_goBack_40 rfl (lv_at hl 0 rfl) ?_
    refine va_get (D := gD G) (ci := 1) (v := .int (jrem ((pN + 10) - 1) 10)) (C := RX1) (T := TX1) (N := 4) hx hb hts i_X1 hown hB.1 hP 0 rfl rfl 2 (by decide) t_1 (fun _ h9 => h9) rfl dX1_goBack_41 ?_
    refine lv_bipush (v := 26) hx hb dX1_goBack_44 (by decide) ?_
    refine lv_imul hx hb dX1_goBack_46 ?_
    refine lv_aload_n hx hb dX1_goBack_47 rfl (lv_at hl 0 rfl) ?_
    refine va_get (D := gD G) (ci := 1) (v := .ref q_pS) (C := RX1) (T := TX1) (N := 4) hx hb hts i_X1 hown hB.1 hP 0 rfl rfl 0 (by decide) t_3 (fun _ h9 => h9) rfl dX1_goBack_48 ?_
    refine lv_iconst (v := 0) hx hb dX1_goBack_51 (by decide) ?_
    refine lv_bipush (v := 26) hx hb dX1_goBack_52 (by decide) ?_
    obtain ⟨o_2, hk⟩ := hk
    refine wr_SN (As := [.ref q_pE, .int ((jrem ((pN + 10) - 1) 10) * 26), .ref q_pS, .int 0, .int 26]) (rest := []) (wr := [oX1 q_p q_pS q_pE (jrem ((pN + 10) - 1) 10) (pK - 1)]) (wf := [oX1 q_p q_pS q_pE (jrem ((pN + 10) - 1) 10) (pK - 1), aI G q_pS 26 (f_X6_copy ((jrem ((pN + 10) - 1) 10) * 26) 0 26 pE pS 260 26), aI G q_pE 260 pE]) (c_X6_copy l G 260 26 (by decide) (by decide) q_pE q_pS pE pS ((jrem ((pN + 10) - 1) 10) * 26) 0 26 o_2) [2, 1] [0] [0, 2, 1] rfl rfl rfl (by decide) gX1_goBack_X6_copy_n38 ⟨_, rfl⟩ hd_X6_copy 14 rfl m_0 m_1 dX1_goBack_54 rfl rfl (Nat.le_of_ble_eq_true rfl) ⟨Nat.le_of_ble_eq_true rfl, Nat.le_of_ble_eq_true rfl⟩ ⟨Nat.le_refl 0, Nat.le_refl 0⟩ hx hb hml hown hts hB hD hS hA hP hl.1 (fun H locs hP hD hS => ?_)
    refine W.eq (g2 := F0 m 57 ls []) rfl ?_
    refine lv_iconst (v := 1) hx hb dX1_goBack_57 (by decide) ?_
    have e9 : f_X1_goBack pS pE pN pK = (1, f_X6_copy ((jrem ((pN + 10) - 1) 10) * 26) 0 26 pE pS 260 26, (jrem ((pN + 10) - 1) 10), (pK - 1)) := by rw [f_X1_goBack, if_pos c_1]
    exact fi 58 _ 1 .boolean _ _ rfl rfl dX1_goBack_58 (by simp only [e9]) (by rw [e9]; exact hP) (by rw [e9]; exact hD) hS
  · rw [if_neg c_1] at hk
    refine lv_iconst (v := 0) hx hb dX1_goBack_8 (by decide) ?_
    have e9 : f_X1_goBack pS pE pN pK = (0, pS, pN, pK) := by rw [f_X1_goBack, if_neg c_1]
    exact fi 9 _ 0 .boolean _ _ rfl rfl dX1_goBack_9 (by simp only [e9]) (by rw [e9]; exact hP) (by rw [e9]; exact hD) hS
