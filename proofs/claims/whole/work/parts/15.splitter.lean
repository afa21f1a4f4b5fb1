noncomputable def f_X4_shiftOf (x0 : Int32) : Int32 := (5 * (7 - x0))
theorem hd_X4_shiftOf : yX4_shiftOf.cls ≠ "java/lang/invoke/MethodHandle" ∧ yX4_shiftOf.cls ≠ "java/lang/invoke/VarHandle" ∧ (parseMethodDescriptor yX4_shiftOf.desc).map (fun d => d.parameters.length) = some 1 := by decide +kernel
set_option maxHeartbeats 4000000 in
set_option maxRecDepth 100000 in
theorem c_X4_shiftOf (l : Launch) (G : BGT) (x0 : Int32) : RO l yX4_shiftOf wsX4_shiftOf 0 G [] [.int x0] (some (.int (f_X4_shiftOf x0))) := by
  refine RO.ofW (cc := cX4_shiftOf) (maxL := 1) (ret := (some .int)) (C := RX4) (by decide) rfl rfl (Nat.le_of_ble_eq_true rfl) ?_
  intro p e s m args below meth c Q ls hx hb hml hts hown hP hB hl fi fl fv
  have hS : va_S (fun _ => False) s.heap s.heap [] := va_S.rf
  have hl : lv_has ls 1 [(0, .int x0)] := hl
  refine lv_iconst (v := 5) hx hb dX4_shiftOf_0 (by decide) ?_
  refine lv_bipush (v := 7) hx hb dX4_shiftOf_1 (by decide) ?_
  refine lv_iload_n hx hb dX4_shiftOf_3 rfl (lv_at hl 0 rfl) ?_
  refine lv_isub hx hb dX4_shiftOf_4 ?_
  refine lv_imul hx hb dX4_shiftOf_5 ?_
  exact fi 6 _ (5 * (7 - x0)) .int rfl rfl dX4_shiftOf_6 (by rw [f_X4_shiftOf])

noncomputable def f_X4_digitIn (x0 : Int64) (x2 : Int32) : Int32 := ((Int64.toInt32 (x0 >>> (Int32.toInt64 (f_X4_shiftOf x2) &&& 63))) &&& 31)
theorem hd_X4_digitIn : yX4_digitIn.cls ≠ "java/lang/invoke/MethodHandle" ∧ yX4_digitIn.cls ≠ "java/lang/invoke/VarHandle" ∧ (parseMethodDescriptor yX4_digitIn.desc).map (fun d => d.parameters.length) = some 2 := by decide +kernel
set_option maxHeartbeats 4000000 in
set_option maxRecDepth 100000 in
theorem c_X4_digitIn (l : Launch) (G : BGT) (x0 : Int64) (x2 : Int32) : RO l yX4_digitIn wsX4_digitIn 1 G [] [.long x0, .int x2] (some (.int (f_X4_digitIn x0 x2))) := by
  refine RO.ofW (cc := cX4_digitIn) (maxL := 3) (ret := (some .int)) (C := RX4) (by decide) rfl rfl (Nat.le_of_ble_eq_true rfl) ?_
  intro p e s m args below meth c Q ls hx hb hml hts hown hP hB hl fi fl fv
  have hS : va_S (fun _ => False) s.heap s.heap [] := va_S.rf
  have hl : lv_has ls 3 [(0, .long x0), (2, .int x2)] := hl
  refine lv_lload_n hx hb dX4_digitIn_0 rfl (lv_at hl 0 rfl) ?_
  refine lv_iload_n hx hb dX4_digitIn_1 rfl (lv_at hl 1 rfl) ?_
  refine ro_S (As := [.int x2]) (rest := [.long x0]) (c_X4_shiftOf l G x2) [] rfl gX4_digitIn_X4_shiftOf ⟨_, rfl⟩ hd_X4_shiftOf dX4_digitIn_2 rfl rfl (Nat.le_of_ble_eq_true rfl) ⟨Nat.le_of_ble_eq_true rfl, Nat.le_of_ble_eq_true rfl⟩ ⟨Nat.le_refl 0, Nat.le_refl 0⟩ hx hb hml hown hts hB hS hP hl.1 ?_
  refine W.eq (g2 := F0 m 5 ls [.int (f_X4_shiftOf x2), .long x0]) rfl ?_
  refine lv_lshr (v := (x0 >>> (Int32.toInt64 (f_X4_shiftOf x2) &&& 63))) hx hb dX4_digitIn_5 rfl ?_
  refine lv_l2i (v := (Int64.toInt32 (x0 >>> (Int32.toInt64 (f_X4_shiftOf x2) &&& 63)))) hx hb dX4_digitIn_6 rfl ?_
  refine lv_bipush (v := 31) hx hb dX4_digitIn_7 (by decide) ?_
  refine lv_iand hx hb dX4_digitIn_9 ?_
  exact fi 10 _ ((Int64.toInt32 (x0 >>> (Int32.toInt64 (f_X4_shiftOf x2) &&& 63))) &&& 31) .int rfl rfl dX4_digitIn_10 (by rw [f_X4_digitIn])

noncomputable def f_X4_parcelIn (x0 : Int64) (x2 : Int32) : Int32 := ((f_X4_digitIn x0 x2) / 3)
theorem hd_X4_parcelIn : yX4_parcelIn.cls ≠ "java/lang/invoke/MethodHandle" ∧ yX4_parcelIn.cls ≠ "java/lang/invoke/VarHandle" ∧ (parseMethodDescriptor yX4_parcelIn.desc).map (fun d => d.parameters.length) = some 2 := by decide +kernel
set_option maxHeartbeats 4000000 in
set_option maxRecDepth 100000 in
theorem c_X4_parcelIn (l : Launch) (G : BGT) (x0 : Int64) (x2 : Int32) : RO l yX4_parcelIn wsX4_parcelIn 2 G [] [.long x0, .int x2] (some (.int (f_X4_parcelIn x0 x2))) := by
  refine RO.ofW (cc := cX4_parcelIn) (maxL := 3) (ret := (some .int)) (C := RX4) (by decide) rfl rfl (Nat.le_of_ble_eq_true rfl) ?_
  intro p e s m args below meth c Q ls hx hb hml hts hown hP hB hl fi fl fv
  have hS : va_S (fun _ => False) s.heap s.heap [] := va_S.rf
  have hl : lv_has ls 3 [(0, .long x0), (2, .int x2)] := hl
  refine lv_lload_n hx hb dX4_parcelIn_0 rfl (lv_at hl 0 rfl) ?_
  refine lv_iload_n hx hb dX4_parcelIn_1 rfl (lv_at hl 1 rfl) ?_
  refine ro_S (As := [.long x0, .int x2]) (rest := []) (c_X4_digitIn l G x0 x2) [] rfl gX4_parcelIn_X4_digitIn ⟨_, rfl⟩ hd_X4_digitIn dX4_parcelIn_2 rfl rfl (Nat.le_of_ble_eq_true rfl) ⟨Nat.le_of_ble_eq_true rfl, Nat.le_of_ble_eq_true rfl⟩ ⟨Nat.le_refl 0, Nat.le_refl 0⟩ hx hb hml hown hts hB hS hP hl.1 ?_
  refine W.eq (g2 := F0 m 5 ls [.int (f_X4_digitIn x0 x2)]) rfl ?_
  refine lv_iconst (v := 3) hx hb dX4_parcelIn_5 (by decide) ?_
  refine lv_idiv hx hb dX4_parcelIn_6 (by decide) ?_
  exact fi 7 _ ((f_X4_digitIn x0 x2) / 3) .int rfl rfl dX4_parcelIn_7 (by rw [f_X4_parcelIn])

noncomputable def f_X4_carrierIn (x0 : Int64) (x2 : Int32) : Int32 := (jrem (f_X4_digitIn x0 x2) 3)
theorem hd_X4_carrierIn : yX4_carrierIn.cls ≠ "java/lang/invoke/MethodHandle" ∧ yX4_carrierIn.cls ≠ "java/lang/invoke/VarHandle" ∧ (parseMethodDescriptor yX4_carrierIn.desc).map (fun d => d.parameters.length) = some 2 := by decide +kernel
set_option maxHeartbeats 4000000 in
set_option maxRecDepth 100000 in
theorem c_X4_carrierIn (l : Launch) (G : BGT) (x0 : Int64) (x2 : Int32) : RO l yX4_carrierIn wsX4_carrierIn 2 G [] [.long x0, .int x2] (some (.int (f_X4_carrierIn x0 x2))) := by
  refine RO.ofW (cc := cX4_carrierIn) (maxL := 3) (ret := (some .int)) (C := RX4) (by decide) rfl rfl (Nat.le_of_ble_eq_true rfl) ?_
  intro p e s m args below meth c Q ls hx hb hml hts hown hP hB hl fi fl fv
  have hS : va_S (fun _ => False) s.heap s.heap [] := va_S.rf
  have hl : lv_has ls 3 [(0, .long x0), (2, .int x2)] := hl
  refine lv_lload_n hx hb dX4_carrierIn_0 rfl (lv_at hl 0 rfl) ?_
  refine lv_iload_n hx hb dX4_carrierIn_1 rfl (lv_at hl 1 rfl) ?_
  refine ro_S (As := [.long x0, .int x2]) (rest := []) (c_X4_digitIn l G x0 x2) [] rfl gX4_carrierIn_X4_digitIn ⟨_, rfl⟩ hd_X4_digitIn dX4_carrierIn_2 rfl rfl (Nat.le_of_ble_eq_true rfl) ⟨Nat.le_of_ble_eq_true rfl, Nat.le_of_ble_eq_true rfl⟩ ⟨Nat.le_refl 0, Nat.le_refl 0⟩ hx hb hml hown hts hB hS hP hl.1 ?_
  refine W.eq (g2 := F0 m 5 ls [.int (f_X4_digitIn x0 x2)]) rfl ?_
  refine lv_iconst (v := 3) hx hb dX4_carrierIn_5 (by decide) ?_
  refine lv_irem hx hb dX4_carrierIn_6 (by decide) ?_
  refine W.eq (g2 := F0 m 7 ls [.int (jrem (f_X4_digitIn x0 x2) 3)]) rfl ?_
  exact fi 7 _ (jrem (f_X4_digitIn x0 x2) 3) .int rfl rfl dX4_carrierIn_7 (by rw [f_X4_carrierIn])

noncomputable def f_X4_rowOf (x1 : Int32) (sW : Nat → Int64) : Int64 := (if x1 < 0 then 0 else (if 256 ≤ x1 then 0 else (sW (Int32.toNatClampNeg x1))))
theorem hd_X4_rowOf : yX4_rowOf.cls ≠ "java/lang/invoke/MethodHandle" ∧ yX4_rowOf.cls ≠ "java/lang/invoke/VarHandle" ∧ (parseMethodDescriptor yX4_rowOf.desc).map (fun d => d.parameters.length) = some 1 := by decide +kernel
set_option maxHeartbeats 4000000 in
set_option maxRecDepth 100000 in
theorem c_X4_rowOf (l : Launch) (G : BGT) (q_s q_b q_r q_sZ q_sR q_sO q_sL q_sW q_sU : Nat) (sW : Nat → Int64) (x1 : Int32) : RO l yX4_rowOf wsX4_rowOf 0 G [oX4 q_s q_b q_r q_sZ q_sR q_sO q_sL q_sW q_sU, aJ G q_sW 256 sW] [.ref q_s, .int x1] (some (.long (f_X4_rowOf x1 sW))) := by
  refine RO.ofW (cc := cX4_rowOf) (maxL := 2) (ret := (some .long)) (C := RX4) (by decide) rfl rfl (Nat.le_of_ble_eq_true rfl) ?_
  intro p e s m args below meth c Q ls hx hb hml hts hown hP hB hl fi fl fv
  have hS : va_S (fun _ => False) s.heap s.heap [] := va_S.rf
  have hl : lv_has ls 2 [(0, .ref q_s), (1, .int x1)] := hl
  have t_0 := hts (.fieldLink RX4 25 "ParcelSplit$Splitter" "row" "[J") (by decide +kernel)
  have i_X4 : ∀ w ∈ wsX40, w ∈ wsX4_rowOf := by decide +kernel
  refine lv_iload_n hx hb dX4_rowOf_0 rfl (lv_at hl 1 rfl) ?_
  refine lv_if_lt (tgt := 22) hx hb dX4_rowOf_1 (by decide) (fun c_1 => ?_) (fun c_1 => ?_)
  · refine lv_lconst (v := 0) hx hb dX4_rowOf_22 (by decide) ?_
    exact fl 23 _ 0 rfl dX4_rowOf_23 (by rw [f_X4_rowOf, if_pos c_1])
  · refine lv_iload_n hx hb dX4_rowOf_4 rfl (lv_at hl 1 rfl) ?_
    refine lv_aload_n hx hb dX4_rowOf_5 rfl (lv_at hl 0 rfl) ?_
    refine va_get (D := gD G) (ci := 4) (v := .ref q_sW) (C := RX4) (T := TX4) (N := 8) hx hb hts i_X4 hown hB.1 hP 0 rfl rfl 6 (by decide) t_0 (fun _ h9 => h9) rfl dX4_rowOf_6 ?_
    refine va_alen (v := 256) hx hb hB.1 hP 1 2 rfl (ty := .long) rfl rfl dX4_rowOf_9 ?_
    refine lv_icmp_ge (tgt := 22) hx hb dX4_rowOf_10 (by decide) (fun c_2 => ?_) (fun c_2 => ?_)
    · refine lv_lconst (v := 0) hx hb dX4_rowOf_22 (by decide) ?_
      exact fl 23 _ 0 rfl dX4_rowOf_23 (by rw [f_X4_rowOf, if_neg c_1, if_pos c_2])
    · refine lv_aload_n hx hb dX4_rowOf_13 rfl (lv_at hl 0 rfl) ?_
      refine va_get (D := gD G) (ci := 4) (v := .ref q_sW) (C := RX4) (T := TX4) (N := 8) hx hb hts i_X4 hown hB.1 hP 0 rfl rfl 6 (by decide) t_0 (fun _ h9 => h9) rfl dX4_rowOf_14 ?_
      refine lv_iload_n hx hb dX4_rowOf_17 rfl (lv_at hl 1 rfl) ?_
      refine va_lald hx hb hB.1 hP 1 2 rfl rfl (in_of c_1 c_2 (Nat.le_of_ble_eq_true rfl)) dX4_rowOf_18 ?_
      refine lv_goto (tgt := 23) hx hb dX4_rowOf_19 (by decide) ?_
      exact fl 23 _ (sW (Int32.toNatClampNeg x1)) rfl dX4_rowOf_23 (by rw [f_X4_rowOf, if_neg c_1, if_neg c_2])

noncomputable def f_X4_onesOf (x1 : Int32) (sU : Nat → Int64) : Int64 := (if x1 < 0 then 0 else (if 256 ≤ x1 then 0 else (sU (Int32.toNatClampNeg x1))))
theorem hd_X4_onesOf : yX4_onesOf.cls ≠ "java/lang/invoke/MethodHandle" ∧ yX4_onesOf.cls ≠ "java/lang/invoke/VarHandle" ∧ (parseMethodDescriptor yX4_onesOf.desc).map (fun d => d.parameters.length) = some 1 := by decide +kernel
set_option maxHeartbeats 4000000 in
set_option maxRecDepth 100000 in
theorem c_X4_onesOf (l : Launch) (G : BGT) (q_s q_b q_r q_sZ q_sR q_sO q_sL q_sW q_sU : Nat) (sU : Nat → Int64) (x1 : Int32) : RO l yX4_onesOf wsX4_onesOf 0 G [oX4 q_s q_b q_r q_sZ q_sR q_sO q_sL q_sW q_sU, aJ G q_sU 256 sU] [.ref q_s, .int x1] (some (.long (f_X4_onesOf x1 sU))) := by
  refine RO.ofW (cc := cX4_onesOf) (maxL := 2) (ret := (some .long)) (C := RX4) (by decide) rfl rfl (Nat.le_of_ble_eq_true rfl) ?_
  intro p e s m args below meth c Q ls hx hb hml hts hown hP hB hl fi fl fv
  have hS : va_S (fun _ => False) s.heap s.heap [] := va_S.rf
  have hl : lv_has ls 2 [(0, .ref q_s), (1, .int x1)] := hl
  have t_0 := hts (.fieldLink RX4 28 "ParcelSplit$Splitter" "ones" "[J") (by decide +kernel)
  have i_X4 : ∀ w ∈ wsX40, w ∈ wsX4_onesOf := by decide +kernel
  refine lv_iload_n hx hb dX4_onesOf_0 rfl (lv_at hl 1 rfl) ?_
  refine lv_if_lt (tgt := 22) hx hb dX4_onesOf_1 (by decide) (fun c_1 => ?_) (fun c_1 => ?_)
  · refine lv_lconst (v := 0) hx hb dX4_onesOf_22 (by decide) ?_
    exact fl 23 _ 0 rfl dX4_onesOf_23 (by rw [f_X4_onesOf, if_pos c_1])
  · refine lv_iload_n hx hb dX4_onesOf_4 rfl (lv_at hl 1 rfl) ?_
    refine lv_aload_n hx hb dX4_onesOf_5 rfl (lv_at hl 0 rfl) ?_
    refine va_get (D := gD G) (ci := 4) (v := .ref q_sU) (C := RX4) (T := TX4) (N := 8) hx hb hts i_X4 hown hB.1 hP 0 rfl rfl 7 (by decide) t_0 (fun _ h9 => h9) rfl dX4_onesOf_6 ?_
    refine va_alen (v := 256) hx hb hB.1 hP 1 2 rfl (ty := .long) rfl rfl dX4_onesOf_9 ?_
    refine lv_icmp_ge (tgt := 22) hx hb dX4_onesOf_10 (by decide) (fun c_2 => ?_) (fun c_2 => ?_)
    · refine lv_lconst (v := 0) hx hb dX4_onesOf_22 (by decide) ?_
      exact fl 23 _ 0 rfl dX4_onesOf_23 (by rw [f_X4_onesOf, if_neg c_1, if_pos c_2])
    · refine lv_aload_n hx hb dX4_onesOf_13 rfl (lv_at hl 0 rfl) ?_
      refine va_get (D := gD G) (ci := 4) (v := .ref q_sU) (C := RX4) (T := TX4) (N := 8) hx hb hts i_X4 hown hB.1 hP 0 rfl rfl 7 (by decide) t_0 (fun _ h9 => h9) rfl dX4_onesOf_14 ?_
      refine lv_iload_n hx hb dX4_onesOf_17 rfl (lv_at hl 1 rfl) ?_
      refine va_lald hx hb hB.1 hP 1 2 rfl rfl (in_of c_1 c_2 (Nat.le_of_ble_eq_true rfl)) dX4_onesOf_18 ?_
      refine lv_goto (tgt := 23) hx hb dX4_onesOf_19 (by decide) ?_
      exact fl 23 _ (sU (Int32.toNatClampNeg x1)) rfl dX4_onesOf_23 (by rw [f_X4_onesOf, if_neg c_1, if_neg c_2])

noncomputable def f_X4_forget (sZ : Nat → Int32) : (Nat → Int32) := f_J7_fill_53178 (-1) sZ 64
noncomputable def k_X4_forget (sZ : Nat → Int32) : Prop := (k_J7_fill_53178 (-1) sZ 64 ∧ True)
theorem hd_X4_forget : yX4_forget.cls ≠ "java/lang/invoke/MethodHandle" ∧ yX4_forget.cls ≠ "java/lang/invoke/VarHandle" ∧ (parseMethodDescriptor yX4_forget.desc).map (fun d => d.parameters.length) = some 0 := by decide +kernel
set_option maxHeartbeats 4000000 in
set_option maxRecDepth 100000 in
theorem c_X4_forget (l : Launch) (G : BGT) (q_s q_b q_r q_sZ q_sR q_sO q_sL q_sW q_sU : Nat) (sZ : Nat → Int32) (hk : k_X4_forget sZ) : WR l yX4_forget wsX4_forget 1 G [oX4 q_s q_b q_r q_sZ q_sR q_sO q_sL q_sW q_sU, aI G q_sZ 64 sZ] [oX4 q_s q_b q_r q_sZ q_sR q_sO q_sL q_sW q_sU, aI G q_sZ 64 (f_X4_forget sZ)] [.ref q_s] none := by
  refine WR.ofW (cc := cX4_forget) (maxL := 1) (ret := none) (C := RX4) (by decide) rfl rfl (Nat.le_of_ble_eq_true rfl) ?_
  intro p e s m args below meth c Q ls A hx hb hml hts hown hP hD hS hA hB hl fi fv
  have hl : lv_has ls 1 [(0, .ref q_s)] := hl
  have t_0 := hts (.fieldLink RX4 11 "ParcelSplit$Splitter" "leastByZones" "[I") (by decide +kernel)
  have i_X4 : ∀ w ∈ wsX40, w ∈ wsX4_forget := by decide +kernel
  rw [k_X4_forget] at hk
  refine lv_aload_n hx hb dX4_forget_0 rfl (lv_at hl 0 rfl) ?_
  refine va_get (D := gD G) (ci := 4) (v := .ref q_sZ) (C := RX4) (T := TX4) (N := 8) hx hb hts i_X4 hown hB.1 hP 0 rfl rfl 2 (by decide) t_0 (fun _ h9 => h9) rfl dX4_forget_1 ?_
  refine lv_iconst (v := (-1)) hx hb dX4_forget_4 (by decide) ?_
  obtain ⟨o_1, hk⟩ := hk
  refine wr_S (As := [.ref q_sZ, .int (-1)]) (rest := []) (wr := [oX4 q_s q_b q_r q_sZ q_sR q_sO q_sL q_sW q_sU]) (wf := [oX4 q_s q_b q_r q_sZ q_sR q_sO q_sL q_sW q_sU, aI G q_sZ 64 (f_J7_fill_53178 (-1) sZ 64)]) (c_J7_fill_53178 l G 64 (by decide) q_sZ sZ (-1) o_1) [1] [0] [0, 1] rfl rfl rfl (by decide) gX4_forget_J7_fill_53178 ⟨_, rfl⟩ hd_J7_fill_53178 dX4_forget_5 rfl rfl (Nat.le_of_ble_eq_true rfl) ⟨Nat.le_of_ble_eq_true rfl, Nat.le_of_ble_eq_true rfl⟩ ⟨Nat.le_refl 0, Nat.le_refl 0⟩ hx hb hml hown hts hB hD hS hA hP hl.1 (fun H locs hP hD hS => ?_)
  refine W.eq (g2 := F0 m 8 ls []) rfl ?_
  have e9 : f_X4_forget sZ = f_J7_fill_53178 (-1) sZ 64 := by rw [f_X4_forget]
  exact fv 8 _ _ _ rfl dX4_forget_8 rfl (by rw [e9]; exact hP) (by rw [e9]; exact hD) hS

noncomputable def f_X4_tryParcel_L108 (x1 : Int32) (sL : Nat → Int32) (sW : Nat → Int64) (v6 : Int32) (v7 : Int64) : (Nat → Int32) × (Nat → Int64) := (if (sL (Int32.toNatClampNeg x1)) < 0 then ((upd sL (Int32.toNatClampNeg x1) v6), (vp_updL sW (Int32.toNatClampNeg x1) v7)) else (if v6 < (sL (Int32.toNatClampNeg x1)) then ((upd sL (Int32.toNatClampNeg x1) v6), (vp_updL sW (Int32.toNatClampNeg x1) v7)) else (if 0 ≤ (lg_cmp v7 (sW (Int32.toNatClampNeg x1))) then (sL, sW) else ((upd sL (Int32.toNatClampNeg x1) v6), (vp_updL sW (Int32.toNatClampNeg x1) v7)))))
noncomputable def k_X4_tryParcel_L108 (x1 : Int32) (sL : Nat → Int32) (sW : Nat → Int64) (v6 : Int32) (v7 : Int64) : Prop := (vp_in x1 256 ∧ (if (sL (Int32.toNatClampNeg x1)) < 0 then (vp_in x1 256 ∧ (vp_in x1 256 ∧ True)) else (vp_in x1 256 ∧ (if v6 < (sL (Int32.toNatClampNeg x1)) then (vp_in x1 256 ∧ (vp_in x1 256 ∧ True)) else (vp_in x1 256 ∧ (if 0 ≤ (lg_cmp v7 (sW (Int32.toNatClampNeg x1))) then True else (vp_in x1 256 ∧ (vp_in x1 256 ∧ True))))))))
noncomputable def f_X4_tryParcel (x1 : Int32) (x2 : Int32) (sO : Nat → Int32) (sL : Nat → Int32) (sW : Nat → Int64) (sU : Nat → Int64) : (Nat → Int32) × (Nat → Int64) := (if (f_X6_at x2 sO 256) < 0 then (sL, sW) else (if (f_X6_at (x1 ^^^ x2) sL 256) < 0 then (sL, sW) else (if x1 < 1 then (sL, sW) else (if x1 < 256 then (if (sL (Int32.toNatClampNeg x1)) < 0 then f_X4_tryParcel_L108 x1 sL sW ((f_X2_chargeOfOffer (f_X6_at x2 sO 256)) + (f_X6_at (x1 ^^^ x2) sL 256)) ((((Int32.toInt64 (f_X2_carrierOfOffer (f_X6_at x2 sO 256))) * (f_X4_onesOf x2 sU)) + (f_X4_rowOf (x1 ^^^ x2) sW)) + (3 * (f_X4_onesOf (x1 ^^^ x2) sU))) else (if ((f_X2_chargeOfOffer (f_X6_at x2 sO 256)) + (f_X6_at (x1 ^^^ x2) sL 256)) ≤ (sL (Int32.toNatClampNeg x1)) then f_X4_tryParcel_L108 x1 sL sW ((f_X2_chargeOfOffer (f_X6_at x2 sO 256)) + (f_X6_at (x1 ^^^ x2) sL 256)) ((((Int32.toInt64 (f_X2_carrierOfOffer (f_X6_at x2 sO 256))) * (f_X4_onesOf x2 sU)) + (f_X4_rowOf (x1 ^^^ x2) sW)) + (3 * (f_X4_onesOf (x1 ^^^ x2) sU))) else (sL, sW))) else (sL, sW)))))
noncomputable def k_X4_tryParcel (x1 : Int32) (x2 : Int32) (sO : Nat → Int32) (sL : Nat → Int32) (sW : Nat → Int64) (sU : Nat → Int64) : Prop := (if (f_X6_at x2 sO 256) < 0 then True else (if (f_X6_at (x1 ^^^ x2) sL 256) < 0 then True else (if x1 < 1 then True else (if x1 < 256 then (vp_in x1 256 ∧ (if (sL (Int32.toNatClampNeg x1)) < 0 then k_X4_tryParcel_L108 x1 sL sW ((f_X2_chargeOfOffer (f_X6_at x2 sO 256)) + (f_X6_at (x1 ^^^ x2) sL 256)) ((((Int32.toInt64 (f_X2_carrierOfOffer (f_X6_at x2 sO 256))) * (f_X4_onesOf x2 sU)) + (f_X4_rowOf (x1 ^^^ x2) sW)) + (3 * (f_X4_onesOf (x1 ^^^ x2) sU))) else (vp_in x1 256 ∧ (if ((f_X2_chargeOfOffer (f_X6_at x2 sO 256)) + (f_X6_at (x1 ^^^ x2) sL 256)) ≤ (sL (Int32.toNatClampNeg x1)) then k_X4_tryParcel_L108 x1 sL sW ((f_X2_chargeOfOffer (f_X6_at x2 sO 256)) + (f_X6_at (x1 ^^^ x2) sL 256)) ((((Int32.toInt64 (f_X2_carrierOfOffer (f_X6_at x2 sO 256))) * (f_X4_onesOf x2 sU)) + (f_X4_rowOf (x1 ^^^ x2) sW)) + (3 * (f_X4_onesOf (x1 ^^^ x2) sU))) else True)))) else True))))
theorem hd_X4_tryParcel : yX4_tryParcel.cls ≠ "java/lang/invoke/MethodHandle" ∧ yX4_tryParcel.cls ≠ "java/lang/invoke/VarHandle" ∧ (parseMethodDescriptor yX4_tryParcel.desc).map (fun d => d.parameters.length) = some 2 := by decide +kernel
set_option maxHeartbeats 4000000 in
set_option maxRecDepth 100000 in
theorem c_X4_tryParcel (l : Launch) (G : BGT) (q_s q_b q_r q_sZ q_sR q_sO q_sL q_sW q_sU : Nat) (sO : Nat → Int32) (sL : Nat → Int32) (sW : Nat → Int64) (sU : Nat → Int64) (x1 : Int32) (x2 : Int32) (hk : k_X4_tryParcel x1 x2 sO sL sW sU) : WR l yX4_tryParcel wsX4_tryParcel 1 G [oX4 q_s q_b q_r q_sZ q_sR q_sO q_sL q_sW q_sU, aI G q_sO 256 sO, aI G q_sL 256 sL, aJ G q_sW 256 sW, aJ G q_sU 256 sU] [oX4 q_s q_b q_r q_sZ q_sR q_sO q_sL q_sW q_sU, aI G q_sO 256 sO, aI G q_sL 256 ((f_X4_tryParcel x1 x2 sO sL sW sU).1), aJ G q_sW 256 ((f_X4_tryParcel x1 x2 sO sL sW sU).2), aJ G q_sU 256 sU] [.ref q_s, .int x1, .int x2] none := by
  refine WR.ofW (cc := cX4_tryParcel) (maxL := 9) (ret := none) (C := RX4) (by decide) rfl rfl (Nat.le_of_ble_eq_true rfl) ?_
  intro p e s m args below meth c Q ls A hx hb hml hts hown hP hD hS hA hB hl fi fv
  have hl : lv_has ls 9 [(0, .ref q_s), (1, .int x1), (2, .int x2)] := hl
  have t_0 := hts (.fieldLink RX4 19 "ParcelSplit$Splitter" "offers" "[I") (by decide +kernel)
  have t_1 := hts (.fieldLink RX4 22 "ParcelSplit$Splitter" "least" "[I") (by decide +kernel)
  have t_2 := hts (.constantLong RX4 105 (3)) (by decide +kernel)
  have t_3 := hts (.fieldLink RX4 25 "ParcelSplit$Splitter" "row" "[J") (by decide +kernel)
  have m_0 : Cond.initialized RX6 ∈ wsX4_tryParcel := by decide +kernel
  have m_1 : Cond.static yX6_at ∈ wsX4_tryParcel := by decide +kernel
  have i_X4 : ∀ w ∈ wsX40, w ∈ wsX4_tryParcel := by decide +kernel
  have T108 : ∀ (v6 : Int32) (v7 : Int64), k_X4_tryParcel_L108 x1 sL sW v6 v7 → f_X4_tryParcel x1 x2 sO sL sW sU = f_X4_tryParcel_L108 x1 sL sW v6 v7 → ∀ (H : Heap) (locs : List Loc), va_P (gD G) vwCl [oX4 q_s q_b q_r q_sZ q_sR q_sO q_sL q_sW q_sU, aI G q_sO 256 sO, aI G q_sL 256 sL, aJ G q_sW 256 sW, aJ G q_sU 256 sU] H → va_D A [oX4 q_s q_b q_r q_sZ q_sR q_sO q_sL q_sW q_sU, aI G q_sO 256 sO, aI G q_sL 256 sL, aJ G q_sW 256 sW, aJ G q_sU 256 sU] → va_S A s.heap H locs → ∀ (ls : Array Slot), lv_has ls 9 [(0, .ref q_s), (1, .int x1), (6, .int v6), (7, .long v7)] → W p l e (rm 1) s m args below meth c H locs 0 0 Q (F0 m 108 ls []) := by
    intro v6 v7 hk hv H locs hP hD hS ls hl
    rw [k_X4_tryParcel_L108] at hk
    refine lv_aload_n hx hb dX4_tryParcel_108 rfl (lv_at hl 0 rfl) ?_
    refine va_get (D := gD G) (ci := 4) (v := .ref q_sL) (C := RX4) (T := TX4) (N := 8) hx hb hts i_X4 hown hB.1 hP 0 rfl rfl 5 (by decide) t_1 (fun _ h9 => h9) rfl dX4_tryParcel_109 ?_
    refine lv_iload_n hx hb dX4_tryParcel_112 rfl (lv_at hl 1 rfl) ?_
    obtain ⟨o_7, hk⟩ := hk
    refine va_iald hx hb hB.1 hP 2 1 rfl rfl o_7 dX4_tryParcel_113 ?_
    refine lv_if_lt (tgt := 140) hx hb dX4_tryParcel_114 (by decide) (fun c_8 => ?_) (fun c_8 => ?_)
    · rw [if_pos c_8] at hk
      refine lv_aload_n hx hb dX4_tryParcel_140 rfl (lv_at hl 0 rfl) ?_
      refine va_get (D := gD G) (ci := 4) (v := .ref q_sL) (C := RX4) (T := TX4) (N := 8) hx hb hts i_X4 hown hB.1 hP 0 rfl rfl 5 (by decide) t_1 (fun _ h9 => h9) rfl dX4_tryParcel_141 ?_
      refine lv_iload_n hx hb dX4_tryParcel_144 rfl (lv_at hl 1 rfl) ?_
      refine lv_iload hx hb dX4_tryParcel_145 (lv_at hl 2 rfl) ?_
      obtain ⟨o_9, hk⟩ := hk
      refine va_iast hx hb hB.1 hP hD hS 2 1 rfl rfl o_9 dX4_tryParcel_147 (fun H locs hP hD hS => ?_)
      have hP : va_P (gD G) vwCl [oX4 q_s q_b q_r q_sZ q_sR q_sO q_sL q_sW q_sU, aI G q_sO 256 sO, aI G q_sL 256 (upd sL (Int32.toNatClampNeg x1) v6), aJ G q_sW 256 sW, aJ G q_sU 256 sU] H := hP
      have hD : va_D A [oX4 q_s q_b q_r q_sZ q_sR q_sO q_sL q_sW q_sU, aI G q_sO 256 sO, aI G q_sL 256 (upd sL (Int32.toNatClampNeg x1) v6), aJ G q_sW 256 sW, aJ G q_sU 256 sU] := hD
      refine lv_aload_n hx hb dX4_tryParcel_148 rfl (lv_at hl 0 rfl) ?_
      refine va_get (D := gD G) (ci := 4) (v := .ref q_sW) (C := RX4) (T := TX4) (N := 8) hx hb hts i_X4 hown hB.1 hP 0 rfl rfl 6 (by decide) t_3 (fun _ h9 => h9) rfl dX4_tryParcel_149 ?_
      refine lv_iload_n hx hb dX4_tryParcel_152 rfl (lv_at hl 1 rfl) ?_
      refine lv_lload hx hb dX4_tryParcel_153 (lv_at hl 3 rfl) ?_
      obtain ⟨o_10, hk⟩ := hk
      refine va_last hx hb hB.1 hP hD hS 3 2 rfl rfl o_10 dX4_tryParcel_155 (fun H locs hP hD hS => ?_)
      have hP : va_P (gD G) vwCl [oX4 q_s q_b q_r q_sZ q_sR q_sO q_sL q_sW q_sU, aI G q_sO 256 sO, aI G q_sL 256 (upd sL (Int32.toNatClampNeg x1) v6), aJ G q_sW 256 (vp_updL sW (Int32.toNatClampNeg x1) v7), aJ G q_sU 256 sU] H := hP
      have hD : va_D A [oX4 q_s q_b q_r q_sZ q_sR q_sO q_sL q_sW q_sU, aI G q_sO 256 sO, aI G q_sL 256 (upd sL (Int32.toNatClampNeg x1) v6), aJ G q_sW 256 (vp_updL sW (Int32.toNatClampNeg x1) v7), aJ G q_sU 256 sU] := hD
      have e9 : f_X4_tryParcel x1 x2 sO sL sW sU = ((upd sL (Int32.toNatClampNeg x1) v6), (vp_updL sW (Int32.toNatClampNeg x1) v7)) := by rw [hv, f_X4_tryParcel_L108, if_pos c_8]
      exact fv 156 _ _ _ rfl dX4_tryParcel_156 rfl (by rw [e9]; exact hP) (by rw [e9]; exact hD) hS
    · rw [if_neg c_8] at hk
      refine lv_iload hx hb dX4_tryParcel_117 (lv_at hl 2 rfl) ?_
      refine lv_aload_n hx hb dX4_tryParcel_119 rfl (lv_at hl 0 rfl) ?_
      refine va_get (D := gD G) (ci := 4) (v := .ref q_sL) (C := RX4) (T := TX4) (N := 8) hx hb hts i_X4 hown hB.1 hP 0 rfl rfl 5 (by decide) t_1 (fun _ h9 => h9) rfl dX4_tryParcel_120 ?_
      refine lv_iload_n hx hb dX4_tryParcel_123 rfl (lv_at hl 1 rfl) ?_
      obtain ⟨o_11, hk⟩ := hk
      refine va_iald hx hb hB.1 hP 2 1 rfl rfl o_11 dX4_tryParcel_124 ?_
      refine lv_icmp_lt (tgt := 140) hx hb dX4_tryParcel_125 (by decide) (fun c_12 => ?_) (fun c_12 => ?_)
      · rw [if_pos c_12] at hk
        refine lv_aload_n hx hb dX4_tryParcel_140 rfl (lv_at hl 0 rfl) ?_
        refine va_get (D := gD G) (ci := 4) (v := .ref q_sL) (C := RX4) (T := TX4) (N := 8) hx hb hts i_X4 hown hB.1 hP 0 rfl rfl 5 (by decide) t_1 (fun _ h9 => h9) rfl dX4_tryParcel_141 ?_
        refine lv_iload_n hx hb dX4_tryParcel_144 rfl (lv_at hl 1 rfl) ?_
        refine lv_iload hx hb dX4_tryParcel_145 (lv_at hl 2 rfl) ?_
        obtain ⟨o_13, hk⟩ := hk
        refine va_iast hx hb hB.1 hP hD hS 2 1 rfl rfl o_13 dX4_tryParcel_147 (fun H locs hP hD hS => ?_)
        have hP : va_P (gD G) vwCl [oX4 q_s q_b q_r q_sZ q_sR q_sO q_sL q_sW q_sU, aI G q_sO 256 sO, aI G q_sL 256 (upd sL (Int32.toNatClampNeg x1) v6), aJ G q_sW 256 sW, aJ G q_sU 256 sU] H := hP
        have hD : va_D A [oX4 q_s q_b q_r q_sZ q_sR q_sO q_sL q_sW q_sU, aI G q_sO 256 sO, aI G q_sL 256 (upd sL (Int32.toNatClampNeg x1) v6), aJ G q_sW 256 sW, aJ G q_sU 256 sU] := hD
        refine lv_aload_n hx hb dX4_tryParcel_148 rfl (lv_at hl 0 rfl) ?_
        refine va_get (D := gD G) (ci := 4) (v := .ref q_sW) (C := RX4) (T := TX4) (N := 8) hx hb hts i_X4 hown hB.1 hP 0 rfl rfl 6 (by decide) t_3 (fun _ h9 => h9) rfl dX4_tryParcel_149 ?_
        refine lv_iload_n hx hb dX4_tryParcel_152 rfl (lv_at hl 1 rfl) ?_
        refine lv_lload hx hb dX4_tryParcel_153 (lv_at hl 3 rfl) ?_
        obtain ⟨o_14, hk⟩ := hk
        refine va_last hx hb hB.1 hP hD hS 3 2 rfl rfl o_14 dX4_tryParcel_155 (fun H locs hP hD hS => ?_)
        have hP : va_P (gD G) vwCl [oX4 q_s q_b q_r q_sZ q_sR q_sO q_sL q_sW q_sU, aI G q_sO 256 sO, aI G q_sL 256 (upd sL (Int32.toNatClampNeg x1) v6), aJ G q_sW 256 (vp_updL sW (Int32.toNatClampNeg x1) v7), aJ G q_sU 256 sU] H := hP
        have hD : va_D A [oX4 q_s q_b q_r q_sZ q_sR q_sO q_sL q_sW q_sU, aI G q_sO 256 sO, aI G q_sL 256 (upd sL (Int32.toNatClampNeg x1) v6), aJ G q_sW 256 (vp_updL sW (Int32.toNatClampNeg x1) v7), aJ G q_sU 256 sU] := hD
        have e9 : f_X4_tryParcel x1 x2 sO sL sW sU = ((upd sL (Int32.toNatClampNeg x1) v6), (vp_updL sW (Int32.toNatClampNeg x1) v7)) := by rw [hv, f_X4_tryParcel_L108, if_neg c_8, if_pos c_12]
        exact fv 156 _ _ _ rfl dX4_tryParcel_156 rfl (by rw [e9]; exact hP) (by rw [e9]; exact hD) hS
      · rw [if_neg c_12] at hk
        refine lv_lload hx hb dX4_tryParcel_128 (lv_at hl 3 rfl) ?_
        refine lv_aload_n hx hb dX4_tryParcel_130 rfl (lv_at hl 0 rfl) ?_
        refine va_get (D := gD G) (ci := 4) (v := .ref q_sW) (C := RX4) (T := TX4) (N := 8) hx hb hts i_X4 hown hB.1 hP 0 rfl rfl 6 (by decide) t_3 (fun _ h9 => h9) rfl dX4_tryParcel_131 ?_
        refine lv_iload_n hx hb dX4_tryParcel_134 rfl (lv_at hl 1 rfl) ?_
        obtain ⟨o_15, hk⟩ := hk
        refine va_lald hx hb hB.1 hP 3 2 rfl rfl o_15 dX4_tryParcel_135 ?_
        refine W.lcmp hx hb dX4_tryParcel_136 ?_
        refine lv_if_ge (tgt := 156) hx hb dX4_tryParcel_137 (by decide) (fun c_16 => ?_) (fun c_16 => ?_)
        · rw [if_pos c_16] at hk
          have e9 : f_X4_tryParcel x1 x2 sO sL sW sU = (sL, sW) := by rw [hv, f_X4_tryParcel_L108, if_neg c_8, if_neg c_12, if_pos c_16]
          exact fv 156 _ _ _ rfl dX4_tryParcel_156 rfl (by rw [e9]; exact hP) (by rw [e9]; exact hD) hS
        · rw [if_neg c_16] at hk
          refine lv_aload_n hx hb dX4_tryParcel_140 rfl (lv_at hl 0 rfl) ?_
          refine va_get (D := gD G) (ci := 4) (v := .ref q_sL) (C := RX4) (T := TX4) (N := 8) hx hb hts i_X4 hown hB.1 hP 0 rfl rfl 5 (by decide) t_1 (fun _ h9 => h9) rfl dX4_tryParcel_141 ?_
          refine lv_iload_n hx hb dX4_tryParcel_144 rfl (lv_at hl 1 rfl) ?_
          refine lv_iload hx hb dX4_tryParcel_145 (lv_at hl 2 rfl) ?_
          obtain ⟨o_17, hk⟩ := hk
          refine va_iast hx hb hB.1 hP hD hS 2 1 rfl rfl o_17 dX4_tryParcel_147 (fun H locs hP hD hS => ?_)
          have hP : va_P (gD G) vwCl [oX4 q_s q_b q_r q_sZ q_sR q_sO q_sL q_sW q_sU, aI G q_sO 256 sO, aI G q_sL 256 (upd sL (Int32.toNatClampNeg x1) v6), aJ G q_sW 256 sW, aJ G q_sU 256 sU] H := hP
          have hD : va_D A [oX4 q_s q_b q_r q_sZ q_sR q_sO q_sL q_sW q_sU, aI G q_sO 256 sO, aI G q_sL 256 (upd sL (Int32.toNatClampNeg x1) v6), aJ G q_sW 256 sW, aJ G q_sU 256 sU] := hD
          refine lv_aload_n hx hb dX4_tryParcel_148 rfl (lv_at hl 0 rfl) ?_
          refine va_get (D := gD G) (ci := 4) (v := .ref q_sW) (C := RX4) (T := TX4) (N := 8) hx hb hts i_X4 hown hB.1 hP 0 rfl rfl 6 (by decide) t_3 (fun _ h9 => h9) rfl dX4_tryParcel_149 ?_
          refine lv_iload_n hx hb dX4_tryParcel_152 rfl (lv_at hl 1 rfl) ?_
          refine lv_lload hx hb dX4_tryParcel_153 (lv_at hl 3 rfl) ?_
          obtain ⟨o_18, hk⟩ := hk
          refine va_last hx hb hB.1 hP hD hS 3 2 rfl rfl o_18 dX4_tryParcel_155 (fun H locs hP hD hS => ?_)
          have hP : va_P (gD G) vwCl [oX4 q_s q_b q_r q_sZ q_sR q_sO q_sL q_sW q_sU, aI G q_sO 256 sO, aI G q_sL 256 (upd sL (Int32.toNatClampNeg x1) v6), aJ G q_sW 256 (vp_updL sW (Int32.toNatClampNeg x1) v7), aJ G q_sU 256 sU] H := hP
          have hD : va_D A [oX4 q_s q_b q_r q_sZ q_sR q_sO q_sL q_sW q_sU, aI G q_sO 256 sO, aI G q_sL 256 (upd sL (Int32.toNatClampNeg x1) v6), aJ G q_sW 256 (vp_updL sW (Int32.toNatClampNeg x1) v7), aJ G q_sU 256 sU] := hD
          have e9 : f_X4_tryParcel x1 x2 sO sL sW sU = ((upd sL (Int32.toNatClampNeg x1) v6), (vp_updL sW (Int32.toNatClampNeg x1) v7)) := by rw [hv, f_X4_tryParcel_L108, if_neg c_8, if_neg c_12, if_neg c_16]
          exact fv 156 _ _ _ rfl dX4_tryParcel_156 rfl (by rw [e9]; exact hP) (by rw [e9]; exact hD) hS
  rw [k_X4_tryParcel] at hk
  refine lv_iload_n hx hb dX4_tryParcel_0 rfl (lv_at hl 1 rfl) ?_
  refine lv_iload_n hx hb dX4_tryParcel_1 rfl (lv_at hl 2 rfl) ?_
  refine lv_ixor hx hb dX4_tryParcel_2 ?_
  refine lv_istore_n (lv' := [(3, .int (x1 ^^^ x2)), (0, .ref q_s), (1, .int x1), (2, .int x2)]) hx hb dX4_tryParcel_3 rfl hl (by decide) rfl (fun ls hl => ?_)
  refine lv_aload_n hx hb dX4_tryParcel_4 rfl (lv_at hl 1 rfl) ?_
  refine va_get (D := gD G) (ci := 4) (v := .ref q_sO) (C := RX4) (T := TX4) (N := 8) hx hb hts i_X4 hown hB.1 hP 0 rfl rfl 4 (by decide) t_0 (fun _ h9 => h9) rfl dX4_tryParcel_5 ?_
  refine lv_iload_n hx hb dX4_tryParcel_8 rfl (lv_at hl 3 rfl) ?_
  refine ro_SN (As := [.ref q_sO, .int x2]) (rest := []) (c_X6_at l G 256 (by decide) q_sO sO x2) [1] rfl gX4_tryParcel_X6_at_n64 ⟨_, rfl⟩ hd_X6_at 12 rfl m_0 m_1 dX4_tryParcel_9 rfl rfl (Nat.le_of_ble_eq_true rfl) ⟨Nat.le_of_ble_eq_true rfl, Nat.le_of_ble_eq_true rfl⟩ ⟨Nat.le_refl 0, Nat.le_refl 0⟩ hx hb hml hown hts hB hS hP hl.1 ?_
  refine W.eq (g2 := F0 m 12 ls [.int (f_X6_at x2 sO 256)]) rfl ?_
  refine lv_istore (lv' := [(4, .int (f_X6_at x2 sO 256)), (3, .int (x1 ^^^ x2)), (0, .ref q_s), (1, .int x1), (2, .int x2)]) hx hb dX4_tryParcel_12 hl (by decide) rfl (fun ls hl => ?_)
  refine lv_aload_n hx hb dX4_tryParcel_14 rfl (lv_at hl 2 rfl) ?_
  refine va_get (D := gD G) (ci := 4) (v := .ref q_sL) (C := RX4) (T := TX4) (N := 8) hx hb hts i_X4 hown hB.1 hP 0 rfl rfl 5 (by decide) t_1 (fun _ h9 => h9) rfl dX4_tryParcel_15 ?_
  refine lv_iload_n hx hb dX4_tryParcel_18 rfl (lv_at hl 1 rfl) ?_
  refine ro_SN (As := [.ref q_sL, .int (x1 ^^^ x2)]) (rest := []) (c_X6_at l G 256 (by decide) q_sL sL (x1 ^^^ x2)) [2] rfl gX4_tryParcel_X6_at_n64 ⟨_, rfl⟩ hd_X6_at 12 rfl m_0 m_1 dX4_tryParcel_19 rfl rfl (Nat.le_of_ble_eq_true rfl) ⟨Nat.le_of_ble_eq_true rfl, Nat.le_of_ble_eq_true rfl⟩ ⟨Nat.le_refl 0, Nat.le_refl 0⟩ hx hb hml hown hts hB hS hP hl.1 ?_
  refine W.eq (g2 := F0 m 22 ls [.int (f_X6_at (x1 ^^^ x2) sL 256)]) rfl ?_
  refine lv_istore (lv' := [(5, .int (f_X6_at (x1 ^^^ x2) sL 256)), (4, .int (f_X6_at x2 sO 256)), (3, .int (x1 ^^^ x2)), (0, .ref q_s), (1, .int x1), (2, .int x2)]) hx hb dX4_tryParcel_22 hl (by decide) rfl (fun ls hl => ?_)
  refine lv_iload hx hb dX4_tryParcel_24 (lv_at hl 1 rfl) ?_
  refine lv_if_lt (tgt := 46) hx hb dX4_tryParcel_26 (by decide) (fun c_1 => ?_) (fun c_1 => ?_)
  · rw [if_pos c_1] at hk
    have e9 : f_X4_tryParcel x1 x2 sO sL sW sU = (sL, sW) := by rw [f_X4_tryParcel, if_pos c_1]
    exact fv 46 _ _ _ rfl dX4_tryParcel_46 rfl (by rw [e9]; exact hP) (by rw [e9]; exact hD) hS
  · rw [if_neg c_1] at hk
    refine lv_iload hx hb dX4_tryParcel_29 (lv_at hl 0 rfl) ?_
    refine lv_if_lt (tgt := 46) hx hb dX4_tryParcel_31 (by decide) (fun c_2 => ?_) (fun c_2 => ?_)
    · rw [if_pos c_2] at hk
      have e9 : f_X4_tryParcel x1 x2 sO sL sW sU = (sL, sW) := by rw [f_X4_tryParcel, if_neg c_1, if_pos c_2]
      exact fv 46 _ _ _ rfl dX4_tryParcel_46 rfl (by rw [e9]; exact hP) (by rw [e9]; exact hD) hS
    · rw [if_neg c_2] at hk
      refine lv_iload_n hx hb dX4_tryParcel_34 rfl (lv_at hl 4 rfl) ?_
      refine lv_iconst (v := 1) hx hb dX4_tryParcel_35 (by decide) ?_
      refine lv_icmp_lt (tgt := 46) hx hb dX4_tryParcel_36 (by decide) (fun c_3 => ?_) (fun c_3 => ?_)
      · rw [if_pos c_3] at hk
        have e9 : f_X4_tryParcel x1 x2 sO sL sW sU = (sL, sW) := by rw [f_X4_tryParcel, if_neg c_1, if_neg c_2, if_pos c_3]
        exact fv 46 _ _ _ rfl dX4_tryParcel_46 rfl (by rw [e9]; exact hP) (by rw [e9]; exact hD) hS
      · rw [if_neg c_3] at hk
        refine lv_iload_n hx hb dX4_tryParcel_39 rfl (lv_at hl 4 rfl) ?_
        refine lv_sipush (v := 256) hx hb dX4_tryParcel_40 (by decide) ?_
        refine lv_icmp_lt (tgt := 47) hx hb dX4_tryParcel_43 (by decide) (fun c_4 => ?_) (fun c_4 => ?_)
        · rw [if_pos c_4] at hk
          refine lv_iload hx hb dX4_tryParcel_47 (lv_at hl 1 rfl) ?_
          refine ro_S (As := [.int (f_X6_at x2 sO 256)]) (rest := []) (c_X2_chargeOfOffer l G (f_X6_at x2 sO 256)) [] rfl gX4_tryParcel_X2_chargeOfOffer ⟨_, rfl⟩ hd_X2_chargeOfOffer dX4_tryParcel_49 rfl rfl (Nat.le_of_ble_eq_true rfl) ⟨Nat.le_of_ble_eq_true rfl, Nat.le_of_ble_eq_true rfl⟩ ⟨Nat.le_refl 0, Nat.le_refl 0⟩ hx hb hml hown hts hB hS hP hl.1 ?_
          refine W.eq (g2 := F0 m 52 ls [.int (f_X2_chargeOfOffer (f_X6_at x2 sO 256))]) rfl ?_
          refine lv_iload hx hb dX4_tryParcel_52 (lv_at hl 0 rfl) ?_
          refine lv_iadd hx hb dX4_tryParcel_54 ?_
          refine lv_istore (lv' := [(6, .int ((f_X2_chargeOfOffer (f_X6_at x2 sO 256)) + (f_X6_at (x1 ^^^ x2) sL 256))), (5, .int (f_X6_at (x1 ^^^ x2) sL 256)), (4, .int (f_X6_at x2 sO 256)), (3, .int (x1 ^^^ x2)), (0, .ref q_s), (1, .int x1), (2, .int x2)]) hx hb dX4_tryParcel_55 hl (by decide) rfl (fun ls hl => ?_)
          refine lv_aload_n hx hb dX4_tryParcel_57 rfl (lv_at hl 4 rfl) ?_
          refine va_get (D := gD G) (ci := 4) (v := .ref q_sL) (C := RX4) (T := TX4) (N := 8) hx hb hts i_X4 hown hB.1 hP 0 rfl rfl 5 (by decide) t_1 (fun _ h9 => h9) rfl dX4_tryParcel_58 ?_
          refine lv_iload_n hx hb dX4_tryParcel_61 rfl (lv_at hl 5 rfl) ?_
          obtain ⟨o_5, hk⟩ := hk
          refine va_iald hx hb hB.1 hP 2 1 rfl rfl o_5 dX4_tryParcel_62 ?_
          refine lv_if_lt (tgt := 78) hx hb dX4_tryParcel_63 (by decide) (fun c_6 => ?_) (fun c_6 => ?_)
          · rw [if_pos c_6] at hk
            refine lv_iload hx hb dX4_tryParcel_78 (lv_at hl 2 rfl) ?_
            refine ro_S (As := [.int (f_X6_at x2 sO 256)]) (rest := []) (c_X2_carrierOfOffer l G (f_X6_at x2 sO 256)) [] rfl gX4_tryParcel_X2_carrierOfOffer ⟨_, rfl⟩ hd_X2_carrierOfOffer dX4_tryParcel_80 rfl rfl (Nat.le_of_ble_eq_true rfl) ⟨Nat.le_of_ble_eq_true rfl, Nat.le_of_ble_eq_true rfl⟩ ⟨Nat.le_refl 0, Nat.le_refl 0⟩ hx hb hml hown hts hB hS hP hl.1 ?_
            refine W.eq (g2 := F0 m 83 ls [.int (f_X2_carrierOfOffer (f_X6_at x2 sO 256))]) rfl ?_
            refine lv_i2l (v := (Int32.toInt64 (f_X2_carrierOfOffer (f_X6_at x2 sO 256)))) hx hb dX4_tryParcel_83 rfl ?_
            refine lv_aload_n hx hb dX4_tryParcel_84 rfl (lv_at hl 4 rfl) ?_
            refine lv_iload_n hx hb dX4_tryParcel_85 rfl (lv_at hl 6 rfl) ?_
            refine ro_V (ci := 4) (q0 := 0) (As := [.int x2]) (rest := [.long (Int32.toInt64 (f_X2_carrierOfOffer (f_X6_at x2 sO 256)))]) (c_X4_onesOf l G q_s q_b q_r q_sZ q_sR q_sO q_sL q_sW q_sU sU x2) [0, 4] rfl rfl rfl rfl gX4_tryParcel_X4_onesOf ⟨_, rfl⟩ hd_X4_onesOf rfl dX4_tryParcel_86 rfl rfl (Nat.le_of_ble_eq_true rfl) ⟨Nat.le_of_ble_eq_true rfl, Nat.le_of_ble_eq_true rfl⟩ ⟨Nat.le_refl 0, Nat.le_refl 0⟩ hx hb hml hown hts hB hS hP hl.1 ?_
            refine W.eq (g2 := F0 m 89 ls [.long (f_X4_onesOf x2 sU), .long (Int32.toInt64 (f_X2_carrierOfOffer (f_X6_at x2 sO 256)))]) rfl ?_
            refine lv_lmul hx hb dX4_tryParcel_89 ?_
            refine lv_aload_n hx hb dX4_tryParcel_90 rfl (lv_at hl 4 rfl) ?_
            refine lv_iload_n hx hb dX4_tryParcel_91 rfl (lv_at hl 3 rfl) ?_
            refine ro_V (ci := 4) (q0 := 0) (As := [.int (x1 ^^^ x2)]) (rest := [.long ((Int32.toInt64 (f_X2_carrierOfOffer (f_X6_at x2 sO 256))) * (f_X4_onesOf x2 sU))]) (c_X4_rowOf l G q_s q_b q_r q_sZ q_sR q_sO q_sL q_sW q_sU sW (x1 ^^^ x2)) [0, 3] rfl rfl rfl rfl gX4_tryParcel_X4_rowOf ⟨_, rfl⟩ hd_X4_rowOf rfl dX4_tryParcel_92 rfl rfl (Nat.le_of_ble_eq_true rfl) ⟨Nat.le_of_ble_eq_true rfl, Nat.le_of_ble_eq_true rfl⟩ ⟨Nat.le_refl 0, Nat.le_refl 0⟩ hx hb hml hown hts hB hS hP hl.1 ?_
            refine W.eq (g2 := F0 m 95 ls [.long (f_X4_rowOf (x1 ^^^ x2) sW), .long ((Int32.toInt64 (f_X2_carrierOfOffer (f_X6_at x2 sO 256))) * (f_X4_onesOf x2 sU))]) rfl ?_
            refine lv_ladd hx hb dX4_tryParcel_95 ?_
            refine lv_ldc2 (v := 3) hx hb hown t_2 dX4_tryParcel_96 ?_
            refine lv_aload_n hx hb dX4_tryParcel_99 rfl (lv_at hl 4 rfl) ?_
            refine lv_iload_n hx hb dX4_tryParcel_100 rfl (lv_at hl 3 rfl) ?_
            refine ro_V (ci := 4) (q0 := 0) (As := [.int (x1 ^^^ x2)]) (rest := [.long 3, .long (((Int32.toInt64 (f_X2_carrierOfOffer (f_X6_at x2 sO 256))) * (f_X4_onesOf x2 sU)) + (f_X4_rowOf (x1 ^^^ x2) sW))]) (c_X4_onesOf l G q_s q_b q_r q_sZ q_sR q_sO q_sL q_sW q_sU sU (x1 ^^^ x2)) [0, 4] rfl rfl rfl rfl gX4_tryParcel_X4_onesOf ⟨_, rfl⟩ hd_X4_onesOf rfl dX4_tryParcel_101 rfl rfl (Nat.le_of_ble_eq_true rfl) ⟨Nat.le_of_ble_eq_true rfl, Nat.le_of_ble_eq_true rfl⟩ ⟨Nat.le_refl 0, Nat.le_refl 0⟩ hx hb hml hown hts hB hS hP hl.1 ?_
            refine W.eq (g2 := F0 m 104 ls [.long (f_X4_onesOf (x1 ^^^ x2) sU), .long 3, .long (((Int32.toInt64 (f_X2_carrierOfOffer (f_X6_at x2 sO 256))) * (f_X4_onesOf x2 sU)) + (f_X4_rowOf (x1 ^^^ x2) sW))]) rfl ?_
            refine lv_lmul hx hb dX4_tryParcel_104 ?_
            refine lv_ladd hx hb dX4_tryParcel_105 ?_
            refine lv_lstore (lv' := [(7, .long ((((Int32.toInt64 (f_X2_carrierOfOffer (f_X6_at x2 sO 256))) * (f_X4_onesOf x2 sU)) + (f_X4_rowOf (x1 ^^^ x2) sW)) + (3 * (f_X4_onesOf (x1 ^^^ x2) sU)))), (6, .int ((f_X2_chargeOfOffer (f_X6_at x2 sO 256)) + (f_X6_at (x1 ^^^ x2) sL 256))), (5, .int (f_X6_at (x1 ^^^ x2) sL 256)), (4, .int (f_X6_at x2 sO 256)), (3, .int (x1 ^^^ x2)), (0, .ref q_s), (1, .int x1), (2, .int x2)]) hx hb dX4_tryParcel_106 hl (by decide) rfl (fun ls hl => ?_)
            exact T108 ((f_X2_chargeOfOffer (f_X6_at x2 sO 256)) + (f_X6_at (x1 ^^^ x2) sL 256)) ((((Int32.toInt64 (f_X2_carrierOfOffer (f_X6_at x2 sO 256))) * (f_X4_onesOf x2 sU)) + (f_X4_rowOf (x1 ^^^ x2) sW)) + (3 * (f_X4_onesOf (x1 ^^^ x2) sU))) hk (by rw [f_X4_tryParcel, if_neg c_1, if_neg c_2, if_neg c_3, if_pos c_4, if_pos c_6]) _ _ hP hD hS ls (lv_sub hl [5, 6, 1, 0] rfl)
          · rw [if_neg c_6] at hk
            refine lv_iload hx hb dX4_tryParcel_66 (lv_at hl 0 rfl) ?_
            refine lv_aload_n hx hb dX4_tryParcel_68 rfl (lv_at hl 4 rfl) ?_
            refine va_get (D := gD G) (ci := 4) (v := .ref q_sL) (C := RX4) (T := TX4) (N := 8) hx hb hts i_X4 hown hB.1 hP 0 rfl rfl 5 (by decide) t_1 (fun _ h9 => h9) rfl dX4_tryParcel_69 ?_
            refine lv_iload_n hx hb dX4_tryParcel_72 rfl (lv_at hl 5 rfl) ?_
            obtain ⟨o_19, hk⟩ := hk
            refine va_iald hx hb hB.1 hP 2 1 rfl rfl o_19 dX4_tryParcel_73 ?_
            refine lv_icmp_le (tgt := 78) hx hb dX4_tryParcel_74 (by decide) (fun c_20 => ?_) (fun c_20 => ?_)
            · rw [if_pos c_20] at hk
              refine lv_iload hx hb dX4_tryParcel_78 (lv_at hl 2 rfl) ?_
              refine ro_S (As := [.int (f_X6_at x2 sO 256)]) (rest := []) (c_X2_carrierOfOffer l G (f_X6_at x2 sO 256)) [] rfl gX4_tryParcel_X2_carrierOfOffer ⟨_, rfl⟩ hd_X2_carrierOfOffer dX4_tryParcel_80 rfl rfl (Nat.le_of_ble_eq_true rfl) ⟨Nat.le_of_ble_eq_true rfl, Nat.le_of_ble_eq_true rfl⟩ ⟨Nat.le_refl 0, Nat.le_refl 0⟩ hx hb hml hown hts hB hS hP hl.1 ?_
              refine W.eq (g2 := F0 m 83 ls [.int (f_X2_carrierOfOffer (f_X6_at x2 sO 256))]) rfl ?_
              refine lv_i2l (v := (Int32.toInt64 (f_X2_carrierOfOffer (f_X6_at x2 sO 256)))) hx hb dX4_tryParcel_83 rfl ?_
              refine lv_aload_n hx hb dX4_tryParcel_84 rfl (lv_at hl 4 rfl) ?_
              refine lv_iload_n hx hb dX4_tryParcel_85 rfl (lv_at hl 6 rfl) ?_
              refine ro_V (ci := 4) (q0 := 0) (As := [.int x2]) (rest := [.long (Int32.toInt64 (f_X2_carrierOfOffer (f_X6_at x2 sO 256)))]) (c_X4_onesOf l G q_s q_b q_r q_sZ q_sR q_sO q_sL q_sW q_sU sU x2) [0, 4] rfl rfl rfl rfl gX4_tryParcel_X4_onesOf ⟨_, rfl⟩ hd_X4_onesOf rfl dX4_tryParcel_86 rfl rfl (Nat.le_of_ble_eq_true rfl) ⟨Nat.le_of_ble_eq_true rfl, Nat.le_of_ble_eq_true rfl⟩ ⟨Nat.le_refl 0, Nat.le_refl 0⟩ hx hb hml hown hts hB hS hP hl.1 ?_
              refine W.eq (g2 := F0 m 89 ls [.long (f_X4_onesOf x2 sU), .long (Int32.toInt64 (f_X2_carrierOfOffer (f_X6_at x2 sO 256)))]) rfl ?_
              refine lv_lmul hx hb dX4_tryParcel_89 ?_
              refine lv_aload_n hx hb dX4_tryParcel_90 rfl (lv_at hl 4 rfl) ?_
              refine lv_iload_n hx hb dX4_tryParcel_91 rfl (lv_at hl 3 rfl) ?_
              refine ro_V (ci := 4) (q0 := 0) (As := [.int (x1 ^^^ x2)]) (rest := [.long ((Int32.toInt64 (f_X2_carrierOfOffer (f_X6_at x2 sO 256))) * (f_X4_onesOf x2 sU))]) (c_X4_rowOf l G q_s q_b q_r q_sZ q_sR q_sO q_sL q_sW q_sU sW (x1 ^^^ x2)) [0, 3] rfl rfl rfl rfl gX4_tryParcel_X4_rowOf ⟨_, rfl⟩ hd_X4_rowOf rfl dX4_tryParcel_92 rfl rfl (Nat.le_of_ble_eq_true rfl) ⟨Nat.le_of_ble_eq_true rfl, Nat.le_of_ble_eq_true rfl⟩ ⟨Nat.le_refl 0, Nat.le_refl 0⟩ hx hb hml hown hts hB hS hP hl.1 ?_
              refine W.eq (g2 := F0 m 95 ls [.long (f_X4_rowOf (x1 ^^^ x2) sW), .long ((Int32.toInt64 (f_X2_carrierOfOffer (f_X6_at x2 sO 256))) * (f_X4_onesOf x2 sU))]) rfl ?_
              refine lv_ladd hx hb dX4_tryParcel_95 ?_
              refine lv_ldc2 (v := 3) hx hb hown t_2 dX4_tryParcel_96 ?_
              refine lv_aload_n hx hb dX4_tryParcel_99 rfl (lv_at hl 4 rfl) ?_
              refine lv_iload_n hx hb dX4_tryParcel_100 rfl (lv_at hl 3 rfl) ?_
              refine ro_V (ci := 4) (q0 := 0) (As := [.int (x1 ^^^ x2)]) (rest := [.long 3, .long (((Int32.toInt64 (f_X2_carrierOfOffer (f_X6_at x2 sO 256))) * (f_X4_onesOf x2 sU)) + (f_X4_rowOf (x1 ^^^ x2) sW))]) (c_X4_onesOf l G q_s q_b q_r q_sZ q_sR q_sO q_sL q_sW q_sU sU (x1 ^^^ x2)) [0, 4] rfl rfl rfl rfl gX4_tryParcel_X4_onesOf ⟨_, rfl⟩ hd_X4_onesOf rfl dX4_tryParcel_101 rfl rfl (Nat.le_of_ble_eq_true rfl) ⟨Nat.le_of_ble_eq_true rfl, Nat.le_of_ble_eq_true rfl⟩ ⟨Nat.le_refl 0, Nat.le_refl 0⟩ hx hb hml hown hts hB hS hP hl.1 ?_
              refine W.eq (g2 := F0 m 104 ls [.long (f_X4_onesOf (x1 ^^^ x2) sU), .long 3, .long (((Int32.toInt64 (f_X2_carrierOfOffer (f_X6_at x2 sO 256))) * (f_X4_onesOf x2 sU)) + (f_X4_rowOf (x1 ^^^ x2) sW))]) rfl ?_
              refine lv_lmul hx hb dX4_tryParcel_104 ?_
              refine lv_ladd hx hb dX4_tryParcel_105 ?_
              refine lv_lstore (lv' := [(7, .long ((((Int32.toInt64 (f_X2_carrierOfOffer (f_X6_at x2 sO 256))) * (f_X4_onesOf x2 sU)) + (f_X4_rowOf (x1 ^^^ x2) sW)) + (3 * (f_X4_onesOf (x1 ^^^ x2) sU)))), (6, .int ((f_X2_chargeOfOffer (f_X6_at x2 sO 256)) + (f_X6_at (x1 ^^^ x2) sL 256))), (5, .int (f_X6_at (x1 ^^^ x2) sL 256)), (4, .int (f_X6_at x2 sO 256)), (3, .int (x1 ^^^ x2)), (0, .ref q_s), (1, .int x1), (2, .int x2)]) hx hb dX4_tryParcel_106 hl (by decide) rfl (fun ls hl => ?_)
              exact T108 ((f_X2_chargeOfOffer (f_X6_at x2 sO 256)) + (f_X6_at (x1 ^^^ x2) sL 256)) ((((Int32.toInt64 (f_X2_carrierOfOffer (f_X6_at x2 sO 256))) * (f_X4_onesOf x2 sU)) + (f_X4_rowOf (x1 ^^^ x2) sW)) + (3 * (f_X4_onesOf (x1 ^^^ x2) sU))) hk (by rw [f_X4_tryParcel, if_neg c_1, if_neg c_2, if_neg c_3, if_pos c_4, if_neg c_6, if_pos c_20]) _ _ hP hD hS ls (lv_sub hl [5, 6, 1, 0] rfl)
            · rw [if_neg c_20] at hk
              have e9 : f_X4_tryParcel x1 x2 sO sL sW sU = (sL, sW) := by rw [f_X4_tryParcel, if_neg c_1, if_neg c_2, if_neg c_3, if_pos c_4, if_neg c_6, if_neg c_20]
              exact fv 77 _ _ _ rfl dX4_tryParcel_77 rfl (by rw [e9]; exact hP) (by rw [e9]; exact hD) hS
        · rw [if_neg c_4] at hk
          have e9 : f_X4_tryParcel x1 x2 sO sL sW sU = (sL, sW) := by rw [f_X4_tryParcel, if_neg c_1, if_neg c_2, if_neg c_3, if_neg c_4]
          exact fv 46 _ _ _ rfl dX4_tryParcel_46 rfl (by rw [e9]; exact hP) (by rw [e9]; exact hD) hS

noncomputable def f_X4_splitSet_L46 (x1 : Int32) (sO : Nat → Int32) (sU : Nat → Int64) : Nat → Int32 → (Nat → Int32) → (Nat → Int64) → Int32 × (Nat → Int32) × (Nat → Int64)
  | 0, v4, w_sL, w_sW => (v4, w_sL, w_sW)
  | n + 1, v4, w_sL, w_sW => (if v4 ≤ 0 then (v4, w_sL, w_sW) else f_X4_splitSet_L46 x1 sO sU n ((v4 - 1) &&& (x1 ^^^ (x1 &&& (-x1)))) ((f_X4_tryParcel x1 ((x1 &&& (-x1)) ||| v4) sO w_sL w_sW sU).1) ((f_X4_tryParcel x1 ((x1 &&& (-x1)) ||| v4) sO w_sL w_sW sU).2))
noncomputable def k_X4_splitSet_L46 (x1 : Int32) (sO : Nat → Int32) (sU : Nat → Int64) : Nat → Int32 → (Nat → Int32) → (Nat → Int64) → Prop
  | 0, _, _, _ => False
  | n + 1, v4, w_sL, w_sW => (if v4 ≤ 0 then True else (k_X4_tryParcel x1 ((x1 &&& (-x1)) ||| v4) sO w_sL w_sW sU ∧ k_X4_splitSet_L46 x1 sO sU n ((v4 - 1) &&& (x1 ^^^ (x1 &&& (-x1)))) ((f_X4_tryParcel x1 ((x1 &&& (-x1)) ||| v4) sO w_sL w_sW sU).1) ((f_X4_tryParcel x1 ((x1 &&& (-x1)) ||| v4) sO w_sL w_sW sU).2)))
noncomputable def f_X4_splitSet_L71 (w_sL : Nat → Int32) (w_sW : Nat → Int64) : (Nat → Int32) × (Nat → Int64) := (w_sL, w_sW)
noncomputable def k_X4_splitSet_L71 (w_sL : Nat → Int32) (w_sW : Nat → Int64) : Prop := True
noncomputable def f_X4_splitSet (x1 : Int32) (sO : Nat → Int32) (sL : Nat → Int32) (sW : Nat → Int64) (sU : Nat → Int64) : (Nat → Int32) × (Nat → Int64) := (if x1 < 1 then (sL, sW) else (if x1 < 256 then f_X4_splitSet_L71  ((f_X4_splitSet_L46 x1 sO sU FU (x1 ^^^ (x1 &&& (-x1))) ((f_X4_tryParcel x1 (x1 &&& (-x1)) sO (upd sL (Int32.toNatClampNeg x1) (-2)) (vp_updL sW (Int32.toNatClampNeg x1) 0) sU).1) ((f_X4_tryParcel x1 (x1 &&& (-x1)) sO (upd sL (Int32.toNatClampNeg x1) (-2)) (vp_updL sW (Int32.toNatClampNeg x1) 0) sU).2)).2.1) ((f_X4_splitSet_L46 x1 sO sU FU (x1 ^^^ (x1 &&& (-x1))) ((f_X4_tryParcel x1 (x1 &&& (-x1)) sO (upd sL (Int32.toNatClampNeg x1) (-2)) (vp_updL sW (Int32.toNatClampNeg x1) 0) sU).1) ((f_X4_tryParcel x1 (x1 &&& (-x1)) sO (upd sL (Int32.toNatClampNeg x1) (-2)) (vp_updL sW (Int32.toNatClampNeg x1) 0) sU).2)).2.2) else (sL, sW)))
noncomputable def k_X4_splitSet (x1 : Int32) (sO : Nat → Int32) (sL : Nat → Int32) (sW : Nat → Int64) (sU : Nat → Int64) : Prop := (if x1 < 1 then True else (if x1 < 256 then (vp_in x1 256 ∧ (vp_in x1 256 ∧ (k_X4_tryParcel x1 (x1 &&& (-x1)) sO (upd sL (Int32.toNatClampNeg x1) (-2)) (vp_updL sW (Int32.toNatClampNeg x1) 0) sU ∧ (k_X4_splitSet_L46 x1 sO sU FU (x1 ^^^ (x1 &&& (-x1))) ((f_X4_tryParcel x1 (x1 &&& (-x1)) sO (upd sL (Int32.toNatClampNeg x1) (-2)) (vp_updL sW (Int32.toNatClampNeg x1) 0) sU).1) ((f_X4_tryParcel x1 (x1 &&& (-x1)) sO (upd sL (Int32.toNatClampNeg x1) (-2)) (vp_updL sW (Int32.toNatClampNeg x1) 0) sU).2) ∧ k_X4_splitSet_L71  ((f_X4_splitSet_L46 x1 sO sU FU (x1 ^^^ (x1 &&& (-x1))) ((f_X4_tryParcel x1 (x1 &&& (-x1)) sO (upd sL (Int32.toNatClampNeg x1) (-2)) (vp_updL sW (Int32.toNatClampNeg x1) 0) sU).1) ((f_X4_tryParcel x1 (x1 &&& (-x1)) sO (upd sL (Int32.toNatClampNeg x1) (-2)) (vp_updL sW (Int32.toNatClampNeg x1) 0) sU).2)).2.1) ((f_X4_splitSet_L46 x1 sO sU FU (x1 ^^^ (x1 &&& (-x1))) ((f_X4_tryParcel x1 (x1 &&& (-x1)) sO (upd sL (Int32.toNatClampNeg x1) (-2)) (vp_updL sW (Int32.toNatClampNeg x1) 0) sU).1) ((f_X4_tryParcel x1 (x1 &&& (-x1)) sO (upd sL (Int32.toNatClampNeg x1) (-2)) (vp_updL sW (Int32.toNatClampNeg x1) 0) sU).2)).2.2))))) else True))
theorem hd_X4_splitSet : yX4_splitSet.cls ≠ "java/lang/invoke/MethodHandle" ∧ yX4_splitSet.cls ≠ "java/lang/invoke/VarHandle" ∧ (parseMethodDescriptor yX4_splitSet.desc).map (fun d => d.parameters.length) = some 1 := by decide +kernel
set_option maxHeartbeats 4000000 in
set_option maxRecDepth 100000 in
theorem c_X4_splitSet (l : Launch) (G : BGT) (q_s q_b q_r q_sZ q_sR q_sO q_sL q_sW q_sU : Nat) (sO : Nat → Int32) (sL : Nat → Int32) (sW : Nat → Int64) (sU : Nat → Int64) (x1 : Int32) (hk : k_X4_splitSet x1 sO sL sW sU) : WR l yX4_splitSet wsX4_splitSet 2 G [oX4 q_s q_b q_r q_sZ q_sR q_sO q_sL q_sW q_sU, aI G q_sO 256 sO, aI G q_sL 256 sL, aJ G q_sW 256 sW, aJ G q_sU 256 sU] [oX4 q_s q_b q_r q_sZ q_sR q_sO q_sL q_sW q_sU, aI G q_sO 256 sO, aI G q_sL 256 ((f_X4_splitSet x1 sO sL sW sU).1), aJ G q_sW 256 ((f_X4_splitSet x1 sO sL sW sU).2), aJ G q_sU 256 sU] [.ref q_s, .int x1] none := by
  refine WR.ofW (cc := cX4_splitSet) (maxL := 5) (ret := none) (C := RX4) (by decide) rfl rfl (Nat.le_of_ble_eq_true rfl) ?_
  intro p e s m args below meth c Q ls A hx hb hml hts hown hP hD hS hA hB hl fi fv
  have hl : lv_has ls 5 [(0, .ref q_s), (1, .int x1)] := hl
  have t_0 := hts (.fieldLink RX4 22 "ParcelSplit$Splitter" "least" "[I") (by decide +kernel)
  have t_1 := hts (.fieldLink RX4 25 "ParcelSplit$Splitter" "row" "[J") (by decide +kernel)
  have i_X4 : ∀ w ∈ wsX40, w ∈ wsX4_splitSet := by decide +kernel
  have T71 : ∀ (w_sL : Nat → Int32) (w_sW : Nat → Int64), k_X4_splitSet_L71  w_sL w_sW → f_X4_splitSet x1 sO sL sW sU = f_X4_splitSet_L71  w_sL w_sW → ∀ (H : Heap) (locs : List Loc), va_P (gD G) vwCl [oX4 q_s q_b q_r q_sZ q_sR q_sO q_sL q_sW q_sU, aI G q_sO 256 sO, aI G q_sL 256 w_sL, aJ G q_sW 256 w_sW, aJ G q_sU 256 sU] H → va_D A [oX4 q_s q_b q_r q_sZ q_sR q_sO q_sL q_sW q_sU, aI G q_sO 256 sO, aI G q_sL 256 w_sL, aJ G q_sW 256 w_sW, aJ G q_sU 256 sU] → va_S A s.heap H locs → ∀ (ls : Array Slot), lv_has ls 5 [] → W p l e (rm 2) s m args below meth c H locs 0 0 Q (F0 m 71 ls []) := by
    intro w_sL w_sW hk hv H locs hP hD hS ls hl
    rw [k_X4_splitSet_L71] at hk
    have e9 : f_X4_splitSet x1 sO sL sW sU = (w_sL, w_sW) := by rw [hv, f_X4_splitSet_L71]
    exact fv 71 _ _ _ rfl dX4_splitSet_71 rfl (by rw [e9]; exact hP) (by rw [e9]; exact hD) hS
  rw [k_X4_splitSet] at hk
  refine lv_iload_n hx hb dX4_splitSet_0 rfl (lv_at hl 1 rfl) ?_
  refine lv_iconst (v := 1) hx hb dX4_splitSet_1 (by decide) ?_
  refine lv_icmp_lt (tgt := 12) hx hb dX4_splitSet_2 (by decide) (fun c_1 => ?_) (fun c_1 => ?_)
  · rw [if_pos c_1] at hk
    have e9 : f_X4_splitSet x1 sO sL sW sU = (sL, sW) := by rw [f_X4_splitSet, if_pos c_1]
    exact fv 12 _ _ _ rfl dX4_splitSet_12 rfl (by rw [e9]; exact hP) (by rw [e9]; exact hD) hS
  · rw [if_neg c_1] at hk
    refine lv_iload_n hx hb dX4_splitSet_5 rfl (lv_at hl 1 rfl) ?_
    refine lv_sipush (v := 256) hx hb dX4_splitSet_6 (by decide) ?_
    refine lv_icmp_lt (tgt := 13) hx hb dX4_splitSet_9 (by decide) (fun c_2 => ?_) (fun c_2 => ?_)
    · rw [if_pos c_2] at hk
      refine lv_iload_n hx hb dX4_splitSet_13 rfl (lv_at hl 1 rfl) ?_
      refine lv_iload_n hx hb dX4_splitSet_14 rfl (lv_at hl 1 rfl) ?_
      refine lv_ineg hx hb dX4_splitSet_15 ?_
      refine lv_iand hx hb dX4_splitSet_16 ?_
      refine lv_istore_n (lv' := [(2, .int (x1 &&& (-x1))), (0, .ref q_s), (1, .int x1)]) hx hb dX4_splitSet_17 rfl hl (by decide) rfl (fun ls hl => ?_)
      refine lv_iload_n hx hb dX4_splitSet_18 rfl (lv_at hl 2 rfl) ?_
      refine lv_iload_n hx hb dX4_splitSet_19 rfl (lv_at hl 0 rfl) ?_
      refine lv_ixor hx hb dX4_splitSet_20 ?_
      refine lv_istore_n (lv' := [(3, .int (x1 ^^^ (x1 &&& (-x1)))), (2, .int (x1 &&& (-x1))), (0, .ref q_s), (1, .int x1)]) hx hb dX4_splitSet_21 rfl hl (by decide) rfl (fun ls hl => ?_)
      refine lv_aload_n hx hb dX4_splitSet_22 rfl (lv_at hl 2 rfl) ?_
      refine va_get (D := gD G) (ci := 4) (v := .ref q_sL) (C := RX4) (T := TX4) (N := 8) hx hb hts i_X4 hown hB.1 hP 0 rfl rfl 5 (by decide) t_0 (fun _ h9 => h9) rfl dX4_splitSet_23 ?_
      refine lv_iload_n hx hb dX4_splitSet_26 rfl (lv_at hl 3 rfl) ?_
      refine lv_bipush (v := (-2)) hx hb dX4_splitSet_27 (by decide) ?_
      obtain ⟨o_3, hk⟩ := hk
      refine va_iast hx hb hB.1 hP hD hS 2 1 rfl rfl o_3 dX4_splitSet_29 (fun H locs hP hD hS => ?_)
      have hP : va_P (gD G) vwCl [oX4 q_s q_b q_r q_sZ q_sR q_sO q_sL q_sW q_sU, aI G q_sO 256 sO, aI G q_sL 256 (upd sL (Int32.toNatClampNeg x1) (-2)), aJ G q_sW 256 sW, aJ G q_sU 256 sU] H := hP
      have hD : va_D A [oX4 q_s q_b q_r q_sZ q_sR q_sO q_sL q_sW q_sU, aI G q_sO 256 sO, aI G q_sL 256 (upd sL (Int32.toNatClampNeg x1) (-2)), aJ G q_sW 256 sW, aJ G q_sU 256 sU] := hD
      refine lv_aload_n hx hb dX4_splitSet_30 rfl (lv_at hl 2 rfl) ?_
      refine va_get (D := gD G) (ci := 4) (v := .ref q_sW) (C := RX4) (T := TX4) (N := 8) hx hb hts i_X4 hown hB.1 hP 0 rfl rfl 6 (by decide) t_1 (fun _ h9 => h9) rfl dX4_splitSet_31 ?_
      refine lv_iload_n hx hb dX4_splitSet_34 rfl (lv_at hl 3 rfl) ?_
      refine lv_lconst (v := 0) hx hb dX4_splitSet_35 (by decide) ?_
      obtain ⟨o_4, hk⟩ := hk
      refine va_last hx hb hB.1 hP hD hS 3 2 rfl rfl o_4 dX4_splitSet_36 (fun H locs hP hD hS => ?_)
      have hP : va_P (gD G) vwCl [oX4 q_s q_b q_r q_sZ q_sR q_sO q_sL q_sW q_sU, aI G q_sO 256 sO, aI G q_sL 256 (upd sL (Int32.toNatClampNeg x1) (-2)), aJ G q_sW 256 (vp_updL sW (Int32.toNatClampNeg x1) 0), aJ G q_sU 256 sU] H := hP
      have hD : va_D A [oX4 q_s q_b q_r q_sZ q_sR q_sO q_sL q_sW q_sU, aI G q_sO 256 sO, aI G q_sL 256 (upd sL (Int32.toNatClampNeg x1) (-2)), aJ G q_sW 256 (vp_updL sW (Int32.toNatClampNeg x1) 0), aJ G q_sU 256 sU] := hD
      refine lv_aload_n hx hb dX4_splitSet_37 rfl (lv_at hl 2 rfl) ?_
      refine lv_iload_n hx hb dX4_splitSet_38 rfl (lv_at hl 3 rfl) ?_
      refine lv_iload_n hx hb dX4_splitSet_39 rfl (lv_at hl 1 rfl) ?_
      obtain ⟨o_5, hk⟩ := hk
      refine wr_V (ci := 4) (q0 := 0) (As := [.int x1, .int (x1 &&& (-x1))]) (rest := []) (wr := []) (wf := [oX4 q_s q_b q_r q_sZ q_sR q_sO q_sL q_sW q_sU, aI G q_sO 256 sO, aI G q_sL 256 ((f_X4_tryParcel x1 (x1 &&& (-x1)) sO (upd sL (Int32.toNatClampNeg x1) (-2)) (vp_updL sW (Int32.toNatClampNeg x1) 0) sU).1), aJ G q_sW 256 ((f_X4_tryParcel x1 (x1 &&& (-x1)) sO (upd sL (Int32.toNatClampNeg x1) (-2)) (vp_updL sW (Int32.toNatClampNeg x1) 0) sU).2), aJ G q_sU 256 sU]) (c_X4_tryParcel l G q_s q_b q_r q_sZ q_sR q_sO q_sL q_sW q_sU sO (upd sL (Int32.toNatClampNeg x1) (-2)) (vp_updL sW (Int32.toNatClampNeg x1) 0) sU x1 (x1 &&& (-x1)) o_5) [0, 1, 2, 3, 4] [] [0, 1, 2, 3, 4] rfl rfl rfl (by decide) rfl rfl rfl gX4_splitSet_X4_tryParcel ⟨_, rfl⟩ hd_X4_tryParcel rfl dX4_splitSet_40 rfl rfl (Nat.le_of_ble_eq_true rfl) ⟨Nat.le_of_ble_eq_true rfl, Nat.le_of_ble_eq_true rfl⟩ ⟨Nat.le_refl 0, Nat.le_refl 0⟩ hx hb hml hown hts hB hD hS hA hP hl.1 (fun H locs hP hD hS => ?_)
      refine W.eq (g2 := F0 m 43 ls []) rfl ?_
      refine lv_iload_n hx hb dX4_splitSet_43 rfl (lv_at hl 0 rfl) ?_
      refine lv_istore (lv' := [(4, .int (x1 ^^^ (x1 &&& (-x1)))), (3, .int (x1 ^^^ (x1 &&& (-x1)))), (2, .int (x1 &&& (-x1))), (0, .ref q_s), (1, .int x1)]) hx hb dX4_splitSet_44 hl (by decide) rfl (fun ls hl => ?_)
      have L46 : ∀ (n : Nat) (v4 : Int32) (w_sL : Nat → Int32) (w_sW : Nat → Int64), k_X4_splitSet_L46 x1 sO sU n v4 w_sL w_sW → ∀ (H : Heap) (locs : List Loc), va_P (gD G) vwCl [oX4 q_s q_b q_r q_sZ q_sR q_sO q_sL q_sW q_sU, aI G q_sO 256 sO, aI G q_sL 256 w_sL, aJ G q_sW 256 w_sW, aJ G q_sU 256 sU] H → va_D A [oX4 q_s q_b q_r q_sZ q_sR q_sO q_sL q_sW q_sU, aI G q_sO 256 sO, aI G q_sL 256 w_sL, aJ G q_sW 256 w_sW, aJ G q_sU 256 sU] → va_S A s.heap H locs → ∀ (ls : Array Slot), lv_has ls 5 [(0, .ref q_s), (1, .int x1), (2, .int (x1 &&& (-x1))), (3, .int (x1 ^^^ (x1 &&& (-x1)))), (4, .int v4)] → (∀ (H : Heap) (locs : List Loc), va_P (gD G) vwCl [oX4 q_s q_b q_r q_sZ q_sR q_sO q_sL q_sW q_sU, aI G q_sO 256 sO, aI G q_sL 256 ((f_X4_splitSet_L46 x1 sO sU n v4 w_sL w_sW).2.1), aJ G q_sW 256 ((f_X4_splitSet_L46 x1 sO sU n v4 w_sL w_sW).2.2), aJ G q_sU 256 sU] H → va_D A [oX4 q_s q_b q_r q_sZ q_sR q_sO q_sL q_sW q_sU, aI G q_sO 256 sO, aI G q_sL 256 ((f_X4_splitSet_L46 x1 sO sU n v4 w_sL w_sW).2.1), aJ G q_sW 256 ((f_X4_splitSet_L46 x1 sO sU n v4 w_sL w_sW).2.2), aJ G q_sU 256 sU] → va_S A s.heap H locs → ∀ (ls : Array Slot), lv_has ls 5 [(0, .ref q_s), (1, .int x1), (2, .int (x1 &&& (-x1))), (3, .int (x1 ^^^ (x1 &&& (-x1)))), (4, .int ((f_X4_splitSet_L46 x1 sO sU n v4 w_sL w_sW).1))] → W p l e (rm 2) s m args below meth c H locs 0 0 Q (F0 m 71 ls [])) → W p l e (rm 2) s m args below meth c H locs 0 0 Q (F0 m 46 ls []) := by
        intro n
        induction n with
        | zero => intro v4 w_sL w_sW hk; exact (hk : False).elim
        | succ n ih =>
          intro v4 w_sL w_sW hk H locs hP hD hS ls hl kk
          rw [k_X4_splitSet_L46] at hk
          refine lv_iload hx hb dX4_splitSet_46 (lv_at hl 4 rfl) ?_
          refine lv_if_le (tgt := 71) hx hb dX4_splitSet_48 (by decide) (fun c_6 => ?_) (fun c_6 => ?_)
          · rw [if_pos c_6] at hk
            have e9 : f_X4_splitSet_L46 x1 sO sU (n + 1) v4 w_sL w_sW = (v4, w_sL, w_sW) := by rw [f_X4_splitSet_L46, if_pos c_6]
            rw [e9] at kk
            exact kk _ _ hP hD hS ls (lv_sub hl [0, 1, 2, 3, 4] rfl)
          · rw [if_neg c_6] at hk
            refine lv_aload_n hx hb dX4_splitSet_51 rfl (lv_at hl 0 rfl) ?_
            refine lv_iload_n hx hb dX4_splitSet_52 rfl (lv_at hl 1 rfl) ?_
            refine lv_iload_n hx hb dX4_splitSet_53 rfl (lv_at hl 2 rfl) ?_
            refine lv_iload hx hb dX4_splitSet_54 (lv_at hl 4 rfl) ?_
            refine lv_ior hx hb dX4_splitSet_56 ?_
            obtain ⟨o_7, hk⟩ := hk
            refine wr_V (ci := 4) (q0 := 0) (As := [.int x1, .int ((x1 &&& (-x1)) ||| v4)]) (rest := []) (wr := []) (wf := [oX4 q_s q_b q_r q_sZ q_sR q_sO q_sL q_sW q_sU, aI G q_sO 256 sO, aI G q_sL 256 ((f_X4_tryParcel x1 ((x1 &&& (-x1)) ||| v4) sO w_sL w_sW sU).1), aJ G q_sW 256 ((f_X4_tryParcel x1 ((x1 &&& (-x1)) ||| v4) sO w_sL w_sW sU).2), aJ G q_sU 256 sU]) (c_X4_tryParcel l G q_s q_b q_r q_sZ q_sR q_sO q_sL q_sW q_sU sO w_sL w_sW sU x1 ((x1 &&& (-x1)) ||| v4) o_7) [0, 1, 2, 3, 4] [] [0, 1, 2, 3, 4] rfl rfl rfl (by decide) rfl rfl rfl gX4_splitSet_X4_tryParcel ⟨_, rfl⟩ hd_X4_tryParcel rfl dX4_splitSet_57 rfl rfl (Nat.le_of_ble_eq_true rfl) ⟨Nat.le_of_ble_eq_true rfl, Nat.le_of_ble_eq_true rfl⟩ ⟨Nat.le_refl 0, Nat.le_refl 0⟩ hx hb hml hown hts hB hD hS hA hP hl.1 (fun H locs hP hD hS => ?_)
            refine W.eq (g2 := F0 m 60 ls []) rfl ?_
            refine lv_iload hx hb dX4_splitSet_60 (lv_at hl 4 rfl) ?_
            refine lv_iconst (v := 1) hx hb dX4_splitSet_62 (by decide) ?_
            refine lv_isub hx hb dX4_splitSet_63 ?_
            refine lv_iload_n hx hb dX4_splitSet_64 rfl (lv_at hl 3 rfl) ?_
            refine lv_iand hx hb dX4_splitSet_65 ?_
            refine lv_istore (lv' := [(4, .int ((v4 - 1) &&& (x1 ^^^ (x1 &&& (-x1))))), (0, .ref q_s), (1, .int x1), (2, .int (x1 &&& (-x1))), (3, .int (x1 ^^^ (x1 &&& (-x1))))]) hx hb dX4_splitSet_66 hl (by decide) rfl (fun ls hl => ?_)
            refine lv_goto (tgt := 46) hx hb dX4_splitSet_68 (by decide) ?_
            have e9 : f_X4_splitSet_L46 x1 sO sU (n + 1) v4 w_sL w_sW = f_X4_splitSet_L46 x1 sO sU n ((v4 - 1) &&& (x1 ^^^ (x1 &&& (-x1)))) ((f_X4_tryParcel x1 ((x1 &&& (-x1)) ||| v4) sO w_sL w_sW sU).1) ((f_X4_tryParcel x1 ((x1 &&& (-x1)) ||| v4) sO w_sL w_sW sU).2) := by rw [f_X4_splitSet_L46, if_neg c_6]
            rw [e9] at kk
            exact ih ((v4 - 1) &&& (x1 ^^^ (x1 &&& (-x1)))) ((f_X4_tryParcel x1 ((x1 &&& (-x1)) ||| v4) sO w_sL w_sW sU).1) ((f_X4_tryParcel x1 ((x1 &&& (-x1)) ||| v4) sO w_sL w_sW sU).2) hk _ _ hP hD hS ls (lv_sub hl [1, 2, 3, 4, 0] rfl) kk
      obtain ⟨hkL, hk⟩ := hk
      refine L46 FU (x1 ^^^ (x1 &&& (-x1))) ((f_X4_tryParcel x1 (x1 &&& (-x1)) sO (upd sL (Int32.toNatClampNeg x1) (-2)) (vp_updL sW (Int32.toNatClampNeg x1) 0) sU).1) ((f_X4_tryParcel x1 (x1 &&& (-x1)) sO (upd sL (Int32.toNatClampNeg x1) (-2)) (vp_updL sW (Int32.toNatClampNeg x1) 0) sU).2) hkL _ _ hP hD hS ls (lv_sub hl [3, 4, 2, 1, 0] rfl) (fun H locs hP hD hS ls hl => ?_)
      have hP : va_P (gD G) vwCl [oX4 q_s q_b q_r q_sZ q_sR q_sO q_sL q_sW q_sU, aI G q_sO 256 sO, aI G q_sL 256 ((f_X4_splitSet_L46 x1 sO sU FU (x1 ^^^ (x1 &&& (-x1))) ((f_X4_tryParcel x1 (x1 &&& (-x1)) sO (upd sL (Int32.toNatClampNeg x1) (-2)) (vp_updL sW (Int32.toNatClampNeg x1) 0) sU).1) ((f_X4_tryParcel x1 (x1 &&& (-x1)) sO (upd sL (Int32.toNatClampNeg x1) (-2)) (vp_updL sW (Int32.toNatClampNeg x1) 0) sU).2)).2.1), aJ G q_sW 256 ((f_X4_splitSet_L46 x1 sO sU FU (x1 ^^^ (x1 &&& (-x1))) ((f_X4_tryParcel x1 (x1 &&& (-x1)) sO (upd sL (Int32.toNatClampNeg x1) (-2)) (vp_updL sW (Int32.toNatClampNeg x1) 0) sU).1) ((f_X4_tryParcel x1 (x1 &&& (-x1)) sO (upd sL (Int32.toNatClampNeg x1) (-2)) (vp_updL sW (Int32.toNatClampNeg x1) 0) sU).2)).2.2), aJ G q_sU 256 sU] H := hP
      have hD : va_D A [oX4 q_s q_b q_r q_sZ q_sR q_sO q_sL q_sW q_sU, aI G q_sO 256 sO, aI G q_sL 256 ((f_X4_splitSet_L46 x1 sO sU FU (x1 ^^^ (x1 &&& (-x1))) ((f_X4_tryParcel x1 (x1 &&& (-x1)) sO (upd sL (Int32.toNatClampNeg x1) (-2)) (vp_updL sW (Int32.toNatClampNeg x1) 0) sU).1) ((f_X4_tryParcel x1 (x1 &&& (-x1)) sO (upd sL (Int32.toNatClampNeg x1) (-2)) (vp_updL sW (Int32.toNatClampNeg x1) 0) sU).2)).2.1), aJ G q_sW 256 ((f_X4_splitSet_L46 x1 sO sU FU (x1 ^^^ (x1 &&& (-x1))) ((f_X4_tryParcel x1 (x1 &&& (-x1)) sO (upd sL (Int32.toNatClampNeg x1) (-2)) (vp_updL sW (Int32.toNatClampNeg x1) 0) sU).1) ((f_X4_tryParcel x1 (x1 &&& (-x1)) sO (upd sL (Int32.toNatClampNeg x1) (-2)) (vp_updL sW (Int32.toNatClampNeg x1) 0) sU).2)).2.2), aJ G q_sU 256 sU] := hD
      exact T71 ((f_X4_splitSet_L46 x1 sO sU FU (x1 ^^^ (x1 &&& (-x1))) ((f_X4_tryParcel x1 (x1 &&& (-x1)) sO (upd sL (Int32.toNatClampNeg x1) (-2)) (vp_updL sW (Int32.toNatClampNeg x1) 0) sU).1) ((f_X4_tryParcel x1 (x1 &&& (-x1)) sO (upd sL (Int32.toNatClampNeg x1) (-2)) (vp_updL sW (Int32.toNatClampNeg x1) 0) sU).2)).2.1) ((f_X4_splitSet_L46 x1 sO sU FU (x1 ^^^ (x1 &&& (-x1))) ((f_X4_tryParcel x1 (x1 &&& (-x1)) sO (upd sL (Int32.toNatClampNeg x1) (-2)) (vp_updL sW (Int32.toNatClampNeg x1) 0) sU).1) ((f_X4_tryParcel x1 (x1 &&& (-x1)) sO (upd sL (Int32.toNatClampNeg x1) (-2)) (vp_updL sW (Int32.toNatClampNeg x1) 0) sU).2)).2.2) hk (by rw [f_X4_splitSet, if_neg c_1, if_pos c_2]) _ _ hP hD hS ls (lv_sub hl [] rfl)
    · rw [if_neg c_2] at hk
      have e9 : f_X4_splitSet x1 sO sL sW sU = (sL, sW) := by rw [f_X4_splitSet, if_neg c_1, if_neg c_2]
      exact fv 12 _ _ _ rfl dX4_splitSet_12 rfl (by rw [e9]; exact hP) (by rw [e9]; exact hD) hS

noncomputable def f_X4_solve_L24 (x1 : Int32) (rK : Nat → Int32) (rL : Nat → Int32) (rG : Nat → Int32) (bA : Nat → Int32) (bB : Nat → Int32) (bP : Nat → Int32) (bC : Int32) (bM : Int32) : Nat → Int32 → (Nat → Int32) → Int32 × (Nat → Int32)
  | 0, v3, w_sO => (v3, w_sO)
  | n + 1, v3, w_sO => (if (f_X0_fullSet bM) < v3 then (v3, w_sO) else f_X4_solve_L24 x1 rK rL rG bA bB bP bC bM n (v3 + 1) (f_X6_store v3 (f_X2_leastOffer v3 x1 rK rL rG bA bB bP bC) w_sO 256))
noncomputable def k_X4_solve_L24 (x1 : Int32) (rK : Nat → Int32) (rL : Nat → Int32) (rG : Nat → Int32) (bA : Nat → Int32) (bB : Nat → Int32) (bP : Nat → Int32) (bC : Int32) (bM : Int32) : Nat → Int32 → (Nat → Int32) → Prop
  | 0, _, _ => False
  | n + 1, v3, w_sO => (if (f_X0_fullSet bM) < v3 then True else (k_X2_leastOffer v3 x1 rK rL rG bA bB bP bC ∧ k_X4_solve_L24 x1 rK rL rG bA bB bP bC bM n (v3 + 1) (f_X6_store v3 (f_X2_leastOffer v3 x1 rK rL rG bA bB bP bC) w_sO 256)))
noncomputable def f_X4_solve_L54 (sU : Nat → Int64) (bM : Int32) : Nat → Int32 → (Nat → Int32) → (Nat → Int32) → (Nat → Int64) → Int32 × (Nat → Int32) × (Nat → Int32) × (Nat → Int64)
  | 0, v3, w_sO, w_sL, w_sW => (v3, w_sO, w_sL, w_sW)
  | n + 1, v3, w_sO, w_sL, w_sW => (if (f_X0_fullSet bM) ≤ v3 then (v3, w_sO, w_sL, w_sW) else f_X4_solve_L54 sU bM n (v3 + 2) w_sO ((f_X4_splitSet v3 w_sO w_sL w_sW sU).1) ((f_X4_splitSet v3 w_sO w_sL w_sW sU).2))
noncomputable def k_X4_solve_L54 (sU : Nat → Int64) (bM : Int32) : Nat → Int32 → (Nat → Int32) → (Nat → Int32) → (Nat → Int64) → Prop
  | 0, _, _, _, _ => False
  | n + 1, v3, w_sO, w_sL, w_sW => (if (f_X0_fullSet bM) ≤ v3 then True else (k_X4_splitSet v3 w_sO w_sL w_sW sU ∧ k_X4_solve_L54 sU bM n (v3 + 2) w_sO ((f_X4_splitSet v3 w_sO w_sL w_sW sU).1) ((f_X4_splitSet v3 w_sO w_sL w_sW sU).2)))
noncomputable def f_X4_solve_L99 (x1 : Int32) (sR : Nat → Int64) (bM : Int32) (w_sZ : Nat → Int32) (w_sO : Nat → Int32) (w_sL : Nat → Int32) (w_sW : Nat → Int64) : (Nat → Int32) × (Nat → Int64) × (Nat → Int32) × (Nat → Int32) × (Nat → Int64) := (w_sZ, (vp_updL sR (Int32.toNatClampNeg x1) (f_X4_rowOf (f_X0_fullSet bM) w_sW)), w_sO, w_sL, w_sW)
noncomputable def k_X4_solve_L99 (x1 : Int32) (w_sZ : Nat → Int32) (w_sO : Nat → Int32) (w_sL : Nat → Int32) (w_sW : Nat → Int64) : Prop := (vp_in x1 64 ∧ True)
noncomputable def f_X4_solve_L75 (x1 : Int32) (sZ : Nat → Int32) (sR : Nat → Int64) (bM : Int32) (w_sO : Nat → Int32) (w_sL : Nat → Int32) (w_sW : Nat → Int64) : (Nat → Int32) × (Nat → Int64) × (Nat → Int32) × (Nat → Int32) × (Nat → Int64) := (if x1 < 0 then (sZ, sR, w_sO, w_sL, w_sW) else (if 64 ≤ x1 then (sZ, sR, w_sO, w_sL, w_sW) else f_X4_solve_L99 x1 sR bM (upd sZ (Int32.toNatClampNeg x1) (f_X6_at (f_X0_fullSet bM) w_sL 256)) w_sO w_sL w_sW))
noncomputable def k_X4_solve_L75 (x1 : Int32) (sZ : Nat → Int32) (bM : Int32) (w_sO : Nat → Int32) (w_sL : Nat → Int32) (w_sW : Nat → Int64) : Prop := (if x1 < 0 then True else (if 64 ≤ x1 then True else k_X4_solve_L99 x1 (upd sZ (Int32.toNatClampNeg x1) (f_X6_at (f_X0_fullSet bM) w_sL 256)) w_sO w_sL w_sW))
noncomputable def f_X4_solve_L70 (x1 : Int32) (sZ : Nat → Int32) (sR : Nat → Int64) (sU : Nat → Int64) (bM : Int32) (w_sO : Nat → Int32) (w_sL : Nat → Int32) (w_sW : Nat → Int64) : (Nat → Int32) × (Nat → Int64) × (Nat → Int32) × (Nat → Int32) × (Nat → Int64) := f_X4_solve_L75 x1 sZ sR bM w_sO ((f_X4_splitSet (f_X0_fullSet bM) w_sO w_sL w_sW sU).1) ((f_X4_splitSet (f_X0_fullSet bM) w_sO w_sL w_sW sU).2)
noncomputable def k_X4_solve_L70 (x1 : Int32) (sZ : Nat → Int32) (sU : Nat → Int64) (bM : Int32) (w_sO : Nat → Int32) (w_sL : Nat → Int32) (w_sW : Nat → Int64) : Prop := (k_X4_splitSet (f_X0_fullSet bM) w_sO w_sL w_sW sU ∧ k_X4_solve_L75 x1 sZ bM w_sO ((f_X4_splitSet (f_X0_fullSet bM) w_sO w_sL w_sW sU).1) ((f_X4_splitSet (f_X0_fullSet bM) w_sO w_sL w_sW sU).2))
noncomputable def f_X4_solve (x1 : Int32) (rK : Nat → Int32) (rL : Nat → Int32) (rG : Nat → Int32) (sZ : Nat → Int32) (sR : Nat → Int64) (sO : Nat → Int32) (sL : Nat → Int32) (sW : Nat → Int64) (sU : Nat → Int64) (bA : Nat → Int32) (bB : Nat → Int32) (bP : Nat → Int32) (bC : Int32) (bM : Int32) : (Nat → Int32) × (Nat → Int64) × (Nat → Int32) × (Nat → Int32) × (Nat → Int64) := f_X4_solve_L70 x1 sZ sR sU bM ((f_X4_solve_L54 sU bM FU 2 ((f_X4_solve_L24 x1 rK rL rG bA bB bP bC bM FU 1 sO).2) (upd sL (Int32.toNatClampNeg 0) 0) (vp_updL sW (Int32.toNatClampNeg 0) 0)).2.1) ((f_X4_solve_L54 sU bM FU 2 ((f_X4_solve_L24 x1 rK rL rG bA bB bP bC bM FU 1 sO).2) (upd sL (Int32.toNatClampNeg 0) 0) (vp_updL sW (Int32.toNatClampNeg 0) 0)).2.2.1) ((f_X4_solve_L54 sU bM FU 2 ((f_X4_solve_L24 x1 rK rL rG bA bB bP bC bM FU 1 sO).2) (upd sL (Int32.toNatClampNeg 0) 0) (vp_updL sW (Int32.toNatClampNeg 0) 0)).2.2.2)
noncomputable def k_X4_solve (x1 : Int32) (rK : Nat → Int32) (rL : Nat → Int32) (rG : Nat → Int32) (sZ : Nat → Int32) (sO : Nat → Int32) (sL : Nat → Int32) (sW : Nat → Int64) (sU : Nat → Int64) (bA : Nat → Int32) (bB : Nat → Int32) (bP : Nat → Int32) (bC : Int32) (bM : Int32) : Prop := (k_X4_solve_L24 x1 rK rL rG bA bB bP bC bM FU 1 sO ∧ (k_X4_solve_L54 sU bM FU 2 ((f_X4_solve_L24 x1 rK rL rG bA bB bP bC bM FU 1 sO).2) (upd sL (Int32.toNatClampNeg 0) 0) (vp_updL sW (Int32.toNatClampNeg 0) 0) ∧ k_X4_solve_L70 x1 sZ sU bM ((f_X4_solve_L54 sU bM FU 2 ((f_X4_solve_L24 x1 rK rL rG bA bB bP bC bM FU 1 sO).2) (upd sL (Int32.toNatClampNeg 0) 0) (vp_updL sW (Int32.toNatClampNeg 0) 0)).2.1) ((f_X4_solve_L54 sU bM FU 2 ((f_X4_solve_L24 x1 rK rL rG bA bB bP bC bM FU 1 sO).2) (upd sL (Int32.toNatClampNeg 0) 0) (vp_updL sW (Int32.toNatClampNeg 0) 0)).2.2.1) ((f_X4_solve_L54 sU bM FU 2 ((f_X4_solve_L24 x1 rK rL rG bA bB bP bC bM FU 1 sO).2) (upd sL (Int32.toNatClampNeg 0) 0) (vp_updL sW (Int32.toNatClampNeg 0) 0)).2.2.2)))
theorem hd_X4_solve : yX4_solve.cls ≠ "java/lang/invoke/MethodHandle" ∧ yX4_solve.cls ≠ "java/lang/invoke/VarHandle" ∧ (parseMethodDescriptor yX4_solve.desc).map (fun d => d.parameters.length) = some 1 := by decide +kernel
set_option maxHeartbeats 4000000 in
set_option maxRecDepth 100000 in
theorem c_X4_solve (l : Launch) (G : BGT) (q_b q_bA q_bB q_bZ q_bG q_bP q_bQ q_r q_rK q_rL q_rG q_s q_sZ q_sR q_sO q_sL q_sW q_sU : Nat) (bC : Int32) (bM : Int32) (bL : Int32) (bD : Int32) (bA : Nat → Int32) (bB : Nat → Int32) (bP : Nat → Int32) (rK : Nat → Int32) (rL : Nat → Int32) (rG : Nat → Int32) (sZ : Nat → Int32) (sR : Nat → Int64) (sO : Nat → Int32) (sL : Nat → Int32) (sW : Nat → Int64) (sU : Nat → Int64) (x1 : Int32) (hk : k_X4_solve x1 rK rL rG sZ sO sL sW sU bA bB bP bC bM) : WR l yX4_solve wsX4_solve 5 G [oX0 q_b q_bA q_bB q_bZ q_bG q_bP q_bQ bC bM bL bD, aI G q_bA 18 bA, aI G q_bB 60 bB, aI G q_bP 3 bP, oX2 q_r q_b q_rK q_rL q_rG, aI G q_rK 256 rK, aI G q_rL 256 rL, aI G q_rG 3 rG, oX4 q_s q_b q_r q_sZ q_sR q_sO q_sL q_sW q_sU, aI G q_sZ 64 sZ, aJ G q_sR 64 sR, aI G q_sO 256 sO, aI G q_sL 256 sL, aJ G q_sW 256 sW, aJ G q_sU 256 sU] [oX0 q_b q_bA q_bB q_bZ q_bG q_bP q_bQ bC bM bL bD, aI G q_bA 18 bA, aI G q_bB 60 bB, aI G q_bP 3 bP, oX2 q_r q_b q_rK q_rL q_rG, aI G q_rK 256 rK, aI G q_rL 256 rL, aI G q_rG 3 rG, oX4 q_s q_b q_r q_sZ q_sR q_sO q_sL q_sW q_sU, aI G q_sZ 64 ((f_X4_solve x1 rK rL rG sZ sR sO sL sW sU bA bB bP bC bM).1), aJ G q_sR 64 ((f_X4_solve x1 rK rL rG sZ sR sO sL sW sU bA bB bP bC bM).2.1), aI G q_sO 256 ((f_X4_solve x1 rK rL rG sZ sR sO sL sW sU bA bB bP bC bM).2.2.1), aI G q_sL 256 ((f_X4_solve x1 rK rL rG sZ sR sO sL sW sU bA bB bP bC bM).2.2.2.1), aJ G q_sW 256 ((f_X4_solve x1 rK rL rG sZ sR sO sL sW sU bA bB bP bC bM).2.2.2.2), aJ G q_sU 256 sU] [.ref q_s, .int x1] none := by
  refine WR.ofW (cc := cX4_solve) (maxL := 4) (ret := none) (C := RX4) (by decide) rfl rfl (Nat.le_of_ble_eq_true rfl) ?_
  intro p e s m args below meth c Q ls A hx hb hml hts hown hP hD hS hA hB hl fi fv
  have hl : lv_has ls 4 [(0, .ref q_s), (1, .int x1)] := hl
  have t_0 := hts (.fieldLink RX4 31 "ParcelSplit$Splitter" "book" "LParcelSplit$Book;") (by decide +kernel)
  have t_1 := hts (.fieldLink RX4 22 "ParcelSplit$Splitter" "least" "[I") (by decide +kernel)
  have t_2 := hts (.fieldLink RX4 25 "ParcelSplit$Splitter" "row" "[J") (by decide +kernel)
  have t_3 := hts (.fieldLink RX4 19 "ParcelSplit$Splitter" "offers" "[I") (by decide +kernel)
  have t_4 := hts (.fieldLink RX4 35 "ParcelSplit$Splitter" "prices" "LParcelSplit$Prices;") (by decide +kernel)
  have t_5 := hts (.fieldLink RX4 11 "ParcelSplit$Splitter" "leastByZones" "[I") (by decide +kernel)
  have t_6 := hts (.fieldLink RX4 15 "ParcelSplit$Splitter" "rowByZones" "[J") (by decide +kernel)
  have m_0 : Cond.initialized RX6 ∈ wsX4_solve := by decide +kernel
  have m_1 : Cond.static yX6_store ∈ wsX4_solve := by decide +kernel
  have m_2 : Cond.static yX6_at ∈ wsX4_solve := by decide +kernel
  have i_X4 : ∀ w ∈ wsX40, w ∈ wsX4_solve := by decide +kernel
  have T99 : ∀ (w_sZ : Nat → Int32) (w_sO : Nat → Int32) (w_sL : Nat → Int32) (w_sW : Nat → Int64), k_X4_solve_L99 x1 w_sZ w_sO w_sL w_sW → f_X4_solve x1 rK rL rG sZ sR sO sL sW sU bA bB bP bC bM = f_X4_solve_L99 x1 sR bM w_sZ w_sO w_sL w_sW → ∀ (H : Heap) (locs : List Loc), va_P (gD G) vwCl [oX0 q_b q_bA q_bB q_bZ q_bG q_bP q_bQ bC bM bL bD, aI G q_bA 18 bA, aI G q_bB 60 bB, aI G q_bP 3 bP, oX2 q_r q_b q_rK q_rL q_rG, aI G q_rK 256 rK, aI G q_rL 256 rL, aI G q_rG 3 rG, oX4 q_s q_b q_r q_sZ q_sR q_sO q_sL q_sW q_sU, aI G q_sZ 64 w_sZ, aJ G q_sR 64 sR, aI G q_sO 256 w_sO, aI G q_sL 256 w_sL, aJ G q_sW 256 w_sW, aJ G q_sU 256 sU] H → va_D A [oX0 q_b q_bA q_bB q_bZ q_bG q_bP q_bQ bC bM bL bD, aI G q_bA 18 bA, aI G q_bB 60 bB, aI G q_bP 3 bP, oX2 q_r q_b q_rK q_rL q_rG, aI G q_rK 256 rK, aI G q_rL 256 rL, aI G q_rG 3 rG, oX4 q_s q_b q_r q_sZ q_sR q_sO q_sL q_sW q_sU, aI G q_sZ 64 w_sZ, aJ G q_sR 64 sR, aI G q_sO 256 w_sO, aI G q_sL 256 w_sL, aJ G q_sW 256 w_sW, aJ G q_sU 256 sU] → va_S A s.heap H locs → ∀ (ls : Array Slot), lv_has ls 4 [(0, .ref q_s), (1, .int x1), (2, .int (f_X0_fullSet bM))] → W p l e (rm 5) s m args below meth c H locs 0 0 Q (F0 m 99 ls []) := by
    intro w_sZ w_sO w_sL w_sW hk hv H locs hP hD hS ls hl
    rw [k_X4_solve_L99] at hk
    refine lv_aload_n hx hb dX4_solve_99 rfl (lv_at hl 0 rfl) ?_
    refine va_get (D := gD G) (ci := 4) (v := .ref q_sR) (C := RX4) (T := TX4) (N := 8) hx hb hts i_X4 hown hB.1 hP 8 rfl rfl 3 (by decide) t_6 (fun _ h9 => h9) rfl dX4_solve_100 ?_
    refine lv_iload_n hx hb dX4_solve_103 rfl (lv_at hl 1 rfl) ?_
    refine lv_aload_n hx hb dX4_solve_104 rfl (lv_at hl 0 rfl) ?_
    refine lv_iload_n hx hb dX4_solve_105 rfl (lv_at hl 2 rfl) ?_
    refine ro_V (ci := 4) (q0 := 8) (As := [.int (f_X0_fullSet bM)]) (rest := [.int x1, .ref q_sR]) (c_X4_rowOf l G q_s q_b q_r q_sZ q_sR q_sO q_sL q_sW q_sU w_sW (f_X0_fullSet bM)) [8, 13] rfl rfl rfl rfl gX4_solve_X4_rowOf ⟨_, rfl⟩ hd_X4_rowOf rfl dX4_solve_106 rfl rfl (Nat.le_of_ble_eq_true rfl) ⟨Nat.le_of_ble_eq_true rfl, Nat.le_of_ble_eq_true rfl⟩ ⟨Nat.le_refl 0, Nat.le_refl 0⟩ hx hb hml hown hts hB hS hP hl.1 ?_
    refine W.eq (g2 := F0 m 109 ls [.long (f_X4_rowOf (f_X0_fullSet bM) w_sW), .int x1, .ref q_sR]) rfl ?_
    obtain ⟨o_8, hk⟩ := hk
    refine va_last hx hb hB.1 hP hD hS 10 2 rfl rfl o_8 dX4_solve_109 (fun H locs hP hD hS => ?_)
    have hP : va_P (gD G) vwCl [oX0 q_b q_bA q_bB q_bZ q_bG q_bP q_bQ bC bM bL bD, aI G q_bA 18 bA, aI G q_bB 60 bB, aI G q_bP 3 bP, oX2 q_r q_b q_rK q_rL q_rG, aI G q_rK 256 rK, aI G q_rL 256 rL, aI G q_rG 3 rG, oX4 q_s q_b q_r q_sZ q_sR q_sO q_sL q_sW q_sU, aI G q_sZ 64 w_sZ, aJ G q_sR 64 (vp_updL sR (Int32.toNatClampNeg x1) (f_X4_rowOf (f_X0_fullSet bM) w_sW)), aI G q_sO 256 w_sO, aI G q_sL 256 w_sL, aJ G q_sW 256 w_sW, aJ G q_sU 256 sU] H := hP
    have hD : va_D A [oX0 q_b q_bA q_bB q_bZ q_bG q_bP q_bQ bC bM bL bD, aI G q_bA 18 bA, aI G q_bB 60 bB, aI G q_bP 3 bP, oX2 q_r q_b q_rK q_rL q_rG, aI G q_rK 256 rK, aI G q_rL 256 rL, aI G q_rG 3 rG, oX4 q_s q_b q_r q_sZ q_sR q_sO q_sL q_sW q_sU, aI G q_sZ 64 w_sZ, aJ G q_sR 64 (vp_updL sR (Int32.toNatClampNeg x1) (f_X4_rowOf (f_X0_fullSet bM) w_sW)), aI G q_sO 256 w_sO, aI G q_sL 256 w_sL, aJ G q_sW 256 w_sW, aJ G q_sU 256 sU] := hD
    have e9 : f_X4_solve x1 rK rL rG sZ sR sO sL sW sU bA bB bP bC bM = (w_sZ, (vp_updL sR (Int32.toNatClampNeg x1) (f_X4_rowOf (f_X0_fullSet bM) w_sW)), w_sO, w_sL, w_sW) := by rw [hv, f_X4_solve_L99]
    exact fv 110 _ _ _ rfl dX4_solve_110 rfl (by rw [e9]; exact hP) (by rw [e9]; exact hD) hS
  have T75 : ∀ (w_sO : Nat → Int32) (w_sL : Nat → Int32) (w_sW : Nat → Int64), k_X4_solve_L75 x1 sZ bM w_sO w_sL w_sW → f_X4_solve x1 rK rL rG sZ sR sO sL sW sU bA bB bP bC bM = f_X4_solve_L75 x1 sZ sR bM w_sO w_sL w_sW → ∀ (H : Heap) (locs : List Loc), va_P (gD G) vwCl [oX0 q_b q_bA q_bB q_bZ q_bG q_bP q_bQ bC bM bL bD, aI G q_bA 18 bA, aI G q_bB 60 bB, aI G q_bP 3 bP, oX2 q_r q_b q_rK q_rL q_rG, aI G q_rK 256 rK, aI G q_rL 256 rL, aI G q_rG 3 rG, oX4 q_s q_b q_r q_sZ q_sR q_sO q_sL q_sW q_sU, aI G q_sZ 64 sZ, aJ G q_sR 64 sR, aI G q_sO 256 w_sO, aI G q_sL 256 w_sL, aJ G q_sW 256 w_sW, aJ G q_sU 256 sU] H → va_D A [oX0 q_b q_bA q_bB q_bZ q_bG q_bP q_bQ bC bM bL bD, aI G q_bA 18 bA, aI G q_bB 60 bB, aI G q_bP 3 bP, oX2 q_r q_b q_rK q_rL q_rG, aI G q_rK 256 rK, aI G q_rL 256 rL, aI G q_rG 3 rG, oX4 q_s q_b q_r q_sZ q_sR q_sO q_sL q_sW q_sU, aI G q_sZ 64 sZ, aJ G q_sR 64 sR, aI G q_sO 256 w_sO, aI G q_sL 256 w_sL, aJ G q_sW 256 w_sW, aJ G q_sU 256 sU] → va_S A s.heap H locs → ∀ (ls : Array Slot), lv_has ls 4 [(0, .ref q_s), (1, .int x1), (2, .int (f_X0_fullSet bM))] → W p l e (rm 5) s m args below meth c H locs 0 0 Q (F0 m 75 ls []) := by
    intro w_sO w_sL w_sW hk hv H locs hP hD hS ls hl
    rw [k_X4_solve_L75] at hk
    refine lv_iload_n hx hb dX4_solve_75 rfl (lv_at hl 1 rfl) ?_
    refine lv_if_lt (tgt := 110) hx hb dX4_solve_76 (by decide) (fun c_6 => ?_) (fun c_6 => ?_)
    · rw [if_pos c_6] at hk
      have e9 : f_X4_solve x1 rK rL rG sZ sR sO sL sW sU bA bB bP bC bM = (sZ, sR, w_sO, w_sL, w_sW) := by rw [hv, f_X4_solve_L75, if_pos c_6]
      exact fv 110 _ _ _ rfl dX4_solve_110 rfl (by rw [e9]; exact hP) (by rw [e9]; exact hD) hS
    · rw [if_neg c_6] at hk
      refine lv_iload_n hx hb dX4_solve_79 rfl (lv_at hl 1 rfl) ?_
      refine lv_bipush (v := 64) hx hb dX4_solve_80 (by decide) ?_
      refine lv_icmp_ge (tgt := 110) hx hb dX4_solve_82 (by decide) (fun c_7 => ?_) (fun c_7 => ?_)
      · rw [if_pos c_7] at hk
        have e9 : f_X4_solve x1 rK rL rG sZ sR sO sL sW sU bA bB bP bC bM = (sZ, sR, w_sO, w_sL, w_sW) := by rw [hv, f_X4_solve_L75, if_neg c_6, if_pos c_7]
        exact fv 110 _ _ _ rfl dX4_solve_110 rfl (by rw [e9]; exact hP) (by rw [e9]; exact hD) hS
      · rw [if_neg c_7] at hk
        refine lv_aload_n hx hb dX4_solve_85 rfl (lv_at hl 0 rfl) ?_
        refine va_get (D := gD G) (ci := 4) (v := .ref q_sZ) (C := RX4) (T := TX4) (N := 8) hx hb hts i_X4 hown hB.1 hP 8 rfl rfl 2 (by decide) t_5 (fun _ h9 => h9) rfl dX4_solve_86 ?_
        refine lv_iload_n hx hb dX4_solve_89 rfl (lv_at hl 1 rfl) ?_
        refine lv_aload_n hx hb dX4_solve_90 rfl (lv_at hl 0 rfl) ?_
        refine va_get (D := gD G) (ci := 4) (v := .ref q_sL) (C := RX4) (T := TX4) (N := 8) hx hb hts i_X4 hown hB.1 hP 8 rfl rfl 5 (by decide) t_1 (fun _ h9 => h9) rfl dX4_solve_91 ?_
        refine lv_iload_n hx hb dX4_solve_94 rfl (lv_at hl 2 rfl) ?_
        refine ro_SN (As := [.ref q_sL, .int (f_X0_fullSet bM)]) (rest := [.int x1, .ref q_sZ]) (c_X6_at l G 256 (by decide) q_sL w_sL (f_X0_fullSet bM)) [12] rfl gX4_solve_X6_at_n64 ⟨_, rfl⟩ hd_X6_at 12 rfl m_0 m_2 dX4_solve_95 rfl rfl (Nat.le_of_ble_eq_true rfl) ⟨Nat.le_of_ble_eq_true rfl, Nat.le_of_ble_eq_true rfl⟩ ⟨Nat.le_refl 0, Nat.le_refl 0⟩ hx hb hml hown hts hB hS hP hl.1 ?_
        refine W.eq (g2 := F0 m 98 ls [.int (f_X6_at (f_X0_fullSet bM) w_sL 256), .int x1, .ref q_sZ]) rfl ?_
        refine va_iast hx hb hB.1 hP hD hS 9 1 rfl rfl (in_of c_6 c_7 (Nat.le_of_ble_eq_true rfl)) dX4_solve_98 (fun H locs hP hD hS => ?_)
        have hP : va_P (gD G) vwCl [oX0 q_b q_bA q_bB q_bZ q_bG q_bP q_bQ bC bM bL bD, aI G q_bA 18 bA, aI G q_bB 60 bB, aI G q_bP 3 bP, oX2 q_r q_b q_rK q_rL q_rG, aI G q_rK 256 rK, aI G q_rL 256 rL, aI G q_rG 3 rG, oX4 q_s q_b q_r q_sZ q_sR q_sO q_sL q_sW q_sU, aI G q_sZ 64 (upd sZ (Int32.toNatClampNeg x1) (f_X6_at (f_X0_fullSet bM) w_sL 256)), aJ G q_sR 64 sR, aI G q_sO 256 w_sO, aI G q_sL 256 w_sL, aJ G q_sW 256 w_sW, aJ G q_sU 256 sU] H := hP
        have hD : va_D A [oX0 q_b q_bA q_bB q_bZ q_bG q_bP q_bQ bC bM bL bD, aI G q_bA 18 bA, aI G q_bB 60 bB, aI G q_bP 3 bP, oX2 q_r q_b q_rK q_rL q_rG, aI G q_rK 256 rK, aI G q_rL 256 rL, aI G q_rG 3 rG, oX4 q_s q_b q_r q_sZ q_sR q_sO q_sL q_sW q_sU, aI G q_sZ 64 (upd sZ (Int32.toNatClampNeg x1) (f_X6_at (f_X0_fullSet bM) w_sL 256)), aJ G q_sR 64 sR, aI G q_sO 256 w_sO, aI G q_sL 256 w_sL, aJ G q_sW 256 w_sW, aJ G q_sU 256 sU] := hD
        exact T99 (upd sZ (Int32.toNatClampNeg x1) (f_X6_at (f_X0_fullSet bM) w_sL 256)) w_sO w_sL w_sW hk (hv.trans (by rw [f_X4_solve_L75, if_neg c_6, if_neg c_7])) _ _ hP hD hS ls (lv_sub hl [0, 1, 2] rfl)
  have T70 : ∀ (w_sO : Nat → Int32) (w_sL : Nat → Int32) (w_sW : Nat → Int64), k_X4_solve_L70 x1 sZ sU bM w_sO w_sL w_sW → f_X4_solve x1 rK rL rG sZ sR sO sL sW sU bA bB bP bC bM = f_X4_solve_L70 x1 sZ sR sU bM w_sO w_sL w_sW → ∀ (H : Heap) (locs : List Loc), va_P (gD G) vwCl [oX0 q_b q_bA q_bB q_bZ q_bG q_bP q_bQ bC bM bL bD, aI G q_bA 18 bA, aI G q_bB 60 bB, aI G q_bP 3 bP, oX2 q_r q_b q_rK q_rL q_rG, aI G q_rK 256 rK, aI G q_rL 256 rL, aI G q_rG 3 rG, oX4 q_s q_b q_r q_sZ q_sR q_sO q_sL q_sW q_sU, aI G q_sZ 64 sZ, aJ G q_sR 64 sR, aI G q_sO 256 w_sO, aI G q_sL 256 w_sL, aJ G q_sW 256 w_sW, aJ G q_sU 256 sU] H → va_D A [oX0 q_b q_bA q_bB q_bZ q_bG q_bP q_bQ bC bM bL bD, aI G q_bA 18 bA, aI G q_bB 60 bB, aI G q_bP 3 bP, oX2 q_r q_b q_rK q_rL q_rG, aI G q_rK 256 rK, aI G q_rL 256 rL, aI G q_rG 3 rG, oX4 q_s q_b q_r q_sZ q_sR q_sO q_sL q_sW q_sU, aI G q_sZ 64 sZ, aJ G q_sR 64 sR, aI G q_sO 256 w_sO, aI G q_sL 256 w_sL, aJ G q_sW 256 w_sW, aJ G q_sU 256 sU] → va_S A s.heap H locs → ∀ (ls : Array Slot), lv_has ls 4 [(0, .ref q_s), (1, .int x1), (2, .int (f_X0_fullSet bM))] → W p l e (rm 5) s m args below meth c H locs 0 0 Q (F0 m 70 ls []) := by
    intro w_sO w_sL w_sW hk hv H locs hP hD hS ls hl
    rw [k_X4_solve_L70] at hk
    refine lv_aload_n hx hb dX4_solve_70 rfl (lv_at hl 0 rfl) ?_
    refine lv_iload_n hx hb dX4_solve_71 rfl (lv_at hl 2 rfl) ?_
    obtain ⟨o_5, hk⟩ := hk
    refine wr_V (ci := 4) (q0 := 8) (As := [.int (f_X0_fullSet bM)]) (rest := []) (wr := [oX0 q_b q_bA q_bB q_bZ q_bG q_bP q_bQ bC bM bL bD, aI G q_bA 18 bA, aI G q_bB 60 bB, aI G q_bP 3 bP, oX2 q_r q_b q_rK q_rL q_rG, aI G q_rK 256 rK, aI G q_rL 256 rL, aI G q_rG 3 rG, aI G q_sZ 64 sZ, aJ G q_sR 64 sR]) (wf := [oX0 q_b q_bA q_bB q_bZ q_bG q_bP q_bQ bC bM bL bD, aI G q_bA 18 bA, aI G q_bB 60 bB, aI G q_bP 3 bP, oX2 q_r q_b q_rK q_rL q_rG, aI G q_rK 256 rK, aI G q_rL 256 rL, aI G q_rG 3 rG, oX4 q_s q_b q_r q_sZ q_sR q_sO q_sL q_sW q_sU, aI G q_sZ 64 sZ, aJ G q_sR 64 sR, aI G q_sO 256 w_sO, aI G q_sL 256 ((f_X4_splitSet (f_X0_fullSet bM) w_sO w_sL w_sW sU).1), aJ G q_sW 256 ((f_X4_splitSet (f_X0_fullSet bM) w_sO w_sL w_sW sU).2), aJ G q_sU 256 sU]) (c_X4_splitSet l G q_s q_b q_r q_sZ q_sR q_sO q_sL q_sW q_sU w_sO w_sL w_sW sU (f_X0_fullSet bM) o_5) [8, 11, 12, 13, 14] [0, 1, 2, 3, 4, 5, 6, 7, 9, 10] [0, 1, 2, 3, 4, 5, 6, 7, 10, 8, 9, 11, 12, 13, 14] rfl rfl rfl (by decide) rfl rfl rfl gX4_solve_X4_splitSet ⟨_, rfl⟩ hd_X4_splitSet rfl dX4_solve_72 rfl rfl (Nat.le_of_ble_eq_true rfl) ⟨Nat.le_of_ble_eq_true rfl, Nat.le_of_ble_eq_true rfl⟩ ⟨Nat.le_refl 0, Nat.le_refl 0⟩ hx hb hml hown hts hB hD hS hA hP hl.1 (fun H locs hP hD hS => ?_)
    refine W.eq (g2 := F0 m 75 ls []) rfl ?_
    exact T75 w_sO ((f_X4_splitSet (f_X0_fullSet bM) w_sO w_sL w_sW sU).1) ((f_X4_splitSet (f_X0_fullSet bM) w_sO w_sL w_sW sU).2) hk (hv.trans (by rw [f_X4_solve_L70])) _ _ hP hD hS ls (lv_sub hl [0, 1, 2] rfl)
  rw [k_X4_solve] at hk
  refine lv_aload_n hx hb dX4_solve_0 rfl (lv_at hl 0 rfl) ?_
  refine va_get (D := gD G) (ci := 4) (v := .ref q_b) (C := RX4) (T := TX4) (N := 8) hx hb hts i_X4 hown hB.1 hP 8 rfl rfl 0 (by decide) t_0 (fun _ h9 => h9) rfl dX4_solve_1 ?_
  refine ro_V (ci := 0) (q0 := 0) (As := []) (rest := []) (c_X0_fullSet l G q_b q_bA q_bB q_bZ q_bG q_bP q_bQ bC bM bL bD) [0] rfl rfl rfl rfl gX4_solve_X0_fullSet ⟨_, rfl⟩ hd_X0_fullSet rfl dX4_solve_4 rfl rfl (Nat.le_of_ble_eq_true rfl) ⟨Nat.le_of_ble_eq_true rfl, Nat.le_of_ble_eq_true rfl⟩ ⟨Nat.le_refl 0, Nat.le_refl 0⟩ hx hb hml hown hts hB hS hP hl.1 ?_
  refine W.eq (g2 := F0 m 7 ls [.int (f_X0_fullSet bM)]) rfl ?_
  refine lv_istore_n (lv' := [(2, .int (f_X0_fullSet bM)), (0, .ref q_s), (1, .int x1)]) hx hb dX4_solve_7 rfl hl (by decide) rfl (fun ls hl => ?_)
  refine lv_aload_n hx hb dX4_solve_8 rfl (lv_at hl 1 rfl) ?_
  refine va_get (D := gD G) (ci := 4) (v := .ref q_sL) (C := RX4) (T := TX4) (N := 8) hx hb hts i_X4 hown hB.1 hP 8 rfl rfl 5 (by decide) t_1 (fun _ h9 => h9) rfl dX4_solve_9 ?_
  refine lv_iconst (v := 0) hx hb dX4_solve_12 (by decide) ?_
  refine lv_iconst (v := 0) hx hb dX4_solve_13 (by decide) ?_
  refine va_iast hx hb hB.1 hP hD hS 12 1 rfl rfl (by unfold vp_in; decide) dX4_solve_14 (fun H locs hP hD hS => ?_)
  have hP : va_P (gD G) vwCl [oX0 q_b q_bA q_bB q_bZ q_bG q_bP q_bQ bC bM bL bD, aI G q_bA 18 bA, aI G q_bB 60 bB, aI G q_bP 3 bP, oX2 q_r q_b q_rK q_rL q_rG, aI G q_rK 256 rK, aI G q_rL 256 rL, aI G q_rG 3 rG, oX4 q_s q_b q_r q_sZ q_sR q_sO q_sL q_sW q_sU, aI G q_sZ 64 sZ, aJ G q_sR 64 sR, aI G q_sO 256 sO, aI G q_sL 256 (upd sL (Int32.toNatClampNeg 0) 0), aJ G q_sW 256 sW, aJ G q_sU 256 sU] H := hP
  have hD : va_D A [oX0 q_b q_bA q_bB q_bZ q_bG q_bP q_bQ bC bM bL bD, aI G q_bA 18 bA, aI G q_bB 60 bB, aI G q_bP 3 bP, oX2 q_r q_b q_rK q_rL q_rG, aI G q_rK 256 rK, aI G q_rL 256 rL, aI G q_rG 3 rG, oX4 q_s q_b q_r q_sZ q_sR q_sO q_sL q_sW q_sU, aI G q_sZ 64 sZ, aJ G q_sR 64 sR, aI G q_sO 256 sO, aI G q_sL 256 (upd sL (Int32.toNatClampNeg 0) 0), aJ G q_sW 256 sW, aJ G q_sU 256 sU] := hD
  refine lv_aload_n hx hb dX4_solve_15 rfl (lv_at hl 1 rfl) ?_
  refine va_get (D := gD G) (ci := 4) (v := .ref q_sW) (C := RX4) (T := TX4) (N := 8) hx hb hts i_X4 hown hB.1 hP 8 rfl rfl 6 (by decide) t_2 (fun _ h9 => h9) rfl dX4_solve_16 ?_
  refine lv_iconst (v := 0) hx hb dX4_solve_19 (by decide) ?_
  refine lv_lconst (v := 0) hx hb dX4_solve_20 (by decide) ?_
  refine va_last hx hb hB.1 hP hD hS 13 2 rfl rfl (by unfold vp_in; decide) dX4_solve_21 (fun H locs hP hD hS => ?_)
  have hP : va_P (gD G) vwCl [oX0 q_b q_bA q_bB q_bZ q_bG q_bP q_bQ bC bM bL bD, aI G q_bA 18 bA, aI G q_bB 60 bB, aI G q_bP 3 bP, oX2 q_r q_b q_rK q_rL q_rG, aI G q_rK 256 rK, aI G q_rL 256 rL, aI G q_rG 3 rG, oX4 q_s q_b q_r q_sZ q_sR q_sO q_sL q_sW q_sU, aI G q_sZ 64 sZ, aJ G q_sR 64 sR, aI G q_sO 256 sO, aI G q_sL 256 (upd sL (Int32.toNatClampNeg 0) 0), aJ G q_sW 256 (vp_updL sW (Int32.toNatClampNeg 0) 0), aJ G q_sU 256 sU] H := hP
  have hD : va_D A [oX0 q_b q_bA q_bB q_bZ q_bG q_bP q_bQ bC bM bL bD, aI G q_bA 18 bA, aI G q_bB 60 bB, aI G q_bP 3 bP, oX2 q_r q_b q_rK q_rL q_rG, aI G q_rK 256 rK, aI G q_rL 256 rL, aI G q_rG 3 rG, oX4 q_s q_b q_r q_sZ q_sR q_sO q_sL q_sW q_sU, aI G q_sZ 64 sZ, aJ G q_sR 64 sR, aI G q_sO 256 sO, aI G q_sL 256 (upd sL (Int32.toNatClampNeg 0) 0), aJ G q_sW 256 (vp_updL sW (Int32.toNatClampNeg 0) 0), aJ G q_sU 256 sU] := hD
  refine lv_iconst (v := 1) hx hb dX4_solve_22 (by decide) ?_
  refine lv_istore_n (lv' := [(3, .int 1), (2, .int (f_X0_fullSet bM)), (0, .ref q_s), (1, .int x1)]) hx hb dX4_solve_23 rfl hl (by decide) rfl (fun ls hl => ?_)
  have L24 : ∀ (n : Nat) (v3 : Int32) (w_sO : Nat → Int32), k_X4_solve_L24 x1 rK rL rG bA bB bP bC bM n v3 w_sO → ∀ (H : Heap) (locs : List Loc), va_P (gD G) vwCl [oX0 q_b q_bA q_bB q_bZ q_bG q_bP q_bQ bC bM bL bD, aI G q_bA 18 bA, aI G q_bB 60 bB, aI G q_bP 3 bP, oX2 q_r q_b q_rK q_rL q_rG, aI G q_rK 256 rK, aI G q_rL 256 rL, aI G q_rG 3 rG, oX4 q_s q_b q_r q_sZ q_sR q_sO q_sL q_sW q_sU, aI G q_sZ 64 sZ, aJ G q_sR 64 sR, aI G q_sO 256 w_sO, aI G q_sL 256 (upd sL (Int32.toNatClampNeg 0) 0), aJ G q_sW 256 (vp_updL sW (Int32.toNatClampNeg 0) 0), aJ G q_sU 256 sU] H → va_D A [oX0 q_b q_bA q_bB q_bZ q_bG q_bP q_bQ bC bM bL bD, aI G q_bA 18 bA, aI G q_bB 60 bB, aI G q_bP 3 bP, oX2 q_r q_b q_rK q_rL q_rG, aI G q_rK 256 rK, aI G q_rL 256 rL, aI G q_rG 3 rG, oX4 q_s q_b q_r q_sZ q_sR q_sO q_sL q_sW q_sU, aI G q_sZ 64 sZ, aJ G q_sR 64 sR, aI G q_sO 256 w_sO, aI G q_sL 256 (upd sL (Int32.toNatClampNeg 0) 0), aJ G q_sW 256 (vp_updL sW (Int32.toNatClampNeg 0) 0), aJ G q_sU 256 sU] → va_S A s.heap H locs → ∀ (ls : Array Slot), lv_has ls 4 [(0, .ref q_s), (1, .int x1), (2, .int (f_X0_fullSet bM)), (3, .int v3)] → (∀ (H : Heap) (locs : List Loc), va_P (gD G) vwCl [oX0 q_b q_bA q_bB q_bZ q_bG q_bP q_bQ bC bM bL bD, aI G q_bA 18 bA, aI G q_bB 60 bB, aI G q_bP 3 bP, oX2 q_r q_b q_rK q_rL q_rG, aI G q_rK 256 rK, aI G q_rL 256 rL, aI G q_rG 3 rG, oX4 q_s q_b q_r q_sZ q_sR q_sO q_sL q_sW q_sU, aI G q_sZ 64 sZ, aJ G q_sR 64 sR, aI G q_sO 256 ((f_X4_solve_L24 x1 rK rL rG bA bB bP bC bM n v3 w_sO).2), aI G q_sL 256 (upd sL (Int32.toNatClampNeg 0) 0), aJ G q_sW 256 (vp_updL sW (Int32.toNatClampNeg 0) 0), aJ G q_sU 256 sU] H → va_D A [oX0 q_b q_bA q_bB q_bZ q_bG q_bP q_bQ bC bM bL bD, aI G q_bA 18 bA, aI G q_bB 60 bB, aI G q_bP 3 bP, oX2 q_r q_b q_rK q_rL q_rG, aI G q_rK 256 rK, aI G q_rL 256 rL, aI G q_rG 3 rG, oX4 q_s q_b q_r q_sZ q_sR q_sO q_sL q_sW q_sU, aI G q_sZ 64 sZ, aJ G q_sR 64 sR, aI G q_sO 256 ((f_X4_solve_L24 x1 rK rL rG bA bB bP bC bM n v3 w_sO).2), aI G q_sL 256 (upd sL (Int32.toNatClampNeg 0) 0), aJ G q_sW 256 (vp_updL sW (Int32.toNatClampNeg 0) 0), aJ G q_sU 256 sU] → va_S A s.heap H locs → ∀ (ls : Array Slot), lv_has ls 4 [(0, .ref q_s), (1, .int x1), (2, .int (f_X0_fullSet bM)), (3, .int ((f_X4_solve_L24 x1 rK rL rG bA bB bP bC bM n v3 w_sO).1))] → W p l e (rm 5) s m args below meth c H locs 0 0 Q (F0 m 52 ls [])) → W p l e (rm 5) s m args below meth c H locs 0 0 Q (F0 m 24 ls []) := by
    intro n
    induction n with
    | zero => intro v3 w_sO hk; exact (hk : False).elim
    | succ n ih =>
      intro v3 w_sO hk H locs hP hD hS ls hl kk
      rw [k_X4_solve_L24] at hk
      refine lv_iload_n hx hb dX4_solve_24 rfl (lv_at hl 3 rfl) ?_
      refine lv_iload_n hx hb dX4_solve_25 rfl (lv_at hl 2 rfl) ?_
      refine lv_icmp_gt (tgt := 52) hx hb dX4_solve_26 (by decide) (fun c_1 => ?_) (fun c_1 => ?_)
      · rw [if_pos c_1] at hk
        have e9 : f_X4_solve_L24 x1 rK rL rG bA bB bP bC bM (n + 1) v3 w_sO = (v3, w_sO) := by rw [f_X4_solve_L24, if_pos c_1]
        rw [e9] at kk
        exact kk _ _ hP hD hS ls (lv_sub hl [0, 1, 2, 3] rfl)
      · rw [if_neg c_1] at hk
        refine lv_aload_n hx hb dX4_solve_29 rfl (lv_at hl 0 rfl) ?_
        refine va_get (D := gD G) (ci := 4) (v := .ref q_sO) (C := RX4) (T := TX4) (N := 8) hx hb hts i_X4 hown hB.1 hP 8 rfl rfl 4 (by decide) t_3 (fun _ h9 => h9) rfl dX4_solve_30 ?_
        refine lv_iload_n hx hb dX4_solve_33 rfl (lv_at hl 3 rfl) ?_
        refine lv_aload_n hx hb dX4_solve_34 rfl (lv_at hl 0 rfl) ?_
        refine va_get (D := gD G) (ci := 4) (v := .ref q_r) (C := RX4) (T := TX4) (N := 8) hx hb hts i_X4 hown hB.1 hP 8 rfl rfl 1 (by decide) t_4 (fun _ h9 => h9) rfl dX4_solve_35 ?_
        refine lv_iload_n hx hb dX4_solve_38 rfl (lv_at hl 3 rfl) ?_
        refine lv_iload_n hx hb dX4_solve_39 rfl (lv_at hl 1 rfl) ?_
        obtain ⟨o_2, hk⟩ := hk
        refine ro_V (ci := 2) (q0 := 4) (As := [.int v3, .int x1]) (rest := [.int v3, .ref q_sO]) (c_X2_leastOffer l G q_b q_bA q_bB q_bZ q_bG q_bP q_bQ q_r q_rK q_rL q_rG bC bM bL bD bA bB bP rK rL rG v3 x1 o_2) [0, 1, 2, 3, 4, 5, 6, 7] rfl rfl rfl rfl gX4_solve_X2_leastOffer ⟨_, rfl⟩ hd_X2_leastOffer rfl dX4_solve_40 rfl rfl (Nat.le_of_ble_eq_true rfl) ⟨Nat.le_of_ble_eq_true rfl, Nat.le_of_ble_eq_true rfl⟩ ⟨Nat.le_refl 0, Nat.le_refl 0⟩ hx hb hml hown hts hB hS hP hl.1 ?_
        refine W.eq (g2 := F0 m 43 ls [.int (f_X2_leastOffer v3 x1 rK rL rG bA bB bP bC), .int v3, .ref q_sO]) rfl ?_
        refine wr_SN (As := [.ref q_sO, .int v3, .int (f_X2_leastOffer v3 x1 rK rL rG bA bB bP bC)]) (rest := []) (wr := [oX0 q_b q_bA q_bB q_bZ q_bG q_bP q_bQ bC bM bL bD, aI G q_bA 18 bA, aI G q_bB 60 bB, aI G q_bP 3 bP, oX2 q_r q_b q_rK q_rL q_rG, aI G q_rK 256 rK, aI G q_rL 256 rL, aI G q_rG 3 rG, oX4 q_s q_b q_r q_sZ q_sR q_sO q_sL q_sW q_sU, aI G q_sZ 64 sZ, aJ G q_sR 64 sR, aI G q_sL 256 (upd sL (Int32.toNatClampNeg 0) 0), aJ G q_sW 256 (vp_updL sW (Int32.toNatClampNeg 0) 0), aJ G q_sU 256 sU]) (wf := [oX0 q_b q_bA q_bB q_bZ q_bG q_bP q_bQ bC bM bL bD, aI G q_bA 18 bA, aI G q_bB 60 bB, aI G q_bP 3 bP, oX2 q_r q_b q_rK q_rL q_rG, aI G q_rK 256 rK, aI G q_rL 256 rL, aI G q_rG 3 rG, oX4 q_s q_b q_r q_sZ q_sR q_sO q_sL q_sW q_sU, aI G q_sZ 64 sZ, aJ G q_sR 64 sR, aI G q_sO 256 (f_X6_store v3 (f_X2_leastOffer v3 x1 rK rL rG bA bB bP bC) w_sO 256), aI G q_sL 256 (upd sL (Int32.toNatClampNeg 0) 0), aJ G q_sW 256 (vp_updL sW (Int32.toNatClampNeg 0) 0), aJ G q_sU 256 sU]) (c_X6_store l G 256 (by decide) q_sO w_sO v3 (f_X2_leastOffer v3 x1 rK rL rG bA bB bP bC)) [11] [0, 1, 2, 3, 4, 5, 6, 7, 8, 9, 10, 12, 13, 14] [0, 1, 2, 3, 4, 5, 6, 7, 8, 9, 10, 14, 11, 12, 13] rfl rfl rfl (by decide) gX4_solve_X6_store_n81 ⟨_, rfl⟩ hd_X6_store 13 rfl m_0 m_1 dX4_solve_43 rfl rfl (Nat.le_of_ble_eq_true rfl) ⟨Nat.le_of_ble_eq_true rfl, Nat.le_of_ble_eq_true rfl⟩ ⟨Nat.le_refl 0, Nat.le_refl 0⟩ hx hb hml hown hts hB hD hS hA hP hl.1 (fun H locs hP hD hS => ?_)
        refine W.eq (g2 := F0 m 46 ls []) rfl ?_
        refine lv_iinc (v := (v3 + 1)) (lv' := [(3, .int (v3 + 1)), (0, .ref q_s), (1, .int x1), (2, .int (f_X0_fullSet bM))]) hx hb dX4_solve_46 hl (k := 3) rfl (by rfl) (by decide) rfl (fun ls hl => ?_)
        refine lv_goto (tgt := 24) hx hb dX4_solve_49 (by decide) ?_
        have e9 : f_X4_solve_L24 x1 rK rL rG bA bB bP bC bM (n + 1) v3 w_sO = f_X4_solve_L24 x1 rK rL rG bA bB bP bC bM n (v3 + 1) (f_X6_store v3 (f_X2_leastOffer v3 x1 rK rL rG bA bB bP bC) w_sO 256) := by rw [f_X4_solve_L24, if_neg c_1]
        rw [e9] at kk
        exact ih (v3 + 1) (f_X6_store v3 (f_X2_leastOffer v3 x1 rK rL rG bA bB bP bC) w_sO 256) hk _ _ hP hD hS ls (lv_sub hl [1, 2, 3, 0] rfl) kk
  obtain ⟨hkL, hk⟩ := hk
  refine L24 FU 1 sO hkL _ _ hP hD hS ls (lv_sub hl [2, 3, 1, 0] rfl) (fun H locs hP hD hS ls hl => ?_)
  have hP : va_P (gD G) vwCl [oX0 q_b q_bA q_bB q_bZ q_bG q_bP q_bQ bC bM bL bD, aI G q_bA 18 bA, aI G q_bB 60 bB, aI G q_bP 3 bP, oX2 q_r q_b q_rK q_rL q_rG, aI G q_rK 256 rK, aI G q_rL 256 rL, aI G q_rG 3 rG, oX4 q_s q_b q_r q_sZ q_sR q_sO q_sL q_sW q_sU, aI G q_sZ 64 sZ, aJ G q_sR 64 sR, aI G q_sO 256 ((f_X4_solve_L24 x1 rK rL rG bA bB bP bC bM FU 1 sO).2), aI G q_sL 256 (upd sL (Int32.toNatClampNeg 0) 0), aJ G q_sW 256 (vp_updL sW (Int32.toNatClampNeg 0) 0), aJ G q_sU 256 sU] H := hP
  have hD : va_D A [oX0 q_b q_bA q_bB q_bZ q_bG q_bP q_bQ bC bM bL bD, aI G q_bA 18 bA, aI G q_bB 60 bB, aI G q_bP 3 bP, oX2 q_r q_b q_rK q_rL q_rG, aI G q_rK 256 rK, aI G q_rL 256 rL, aI G q_rG 3 rG, oX4 q_s q_b q_r q_sZ q_sR q_sO q_sL q_sW q_sU, aI G q_sZ 64 sZ, aJ G q_sR 64 sR, aI G q_sO 256 ((f_X4_solve_L24 x1 rK rL rG bA bB bP bC bM FU 1 sO).2), aI G q_sL 256 (upd sL (Int32.toNatClampNeg 0) 0), aJ G q_sW 256 (vp_updL sW (Int32.toNatClampNeg 0) 0), aJ G q_sU 256 sU] := hD
  refine lv_iconst (v := 2) hx hb dX4_solve_52 (by decide) ?_
  refine lv_istore_n (lv' := [(3, .int 2), (0, .ref q_s), (1, .int x1), (2, .int (f_X0_fullSet bM))]) hx hb dX4_solve_53 rfl hl (by decide) rfl (fun ls hl => ?_)
  have L54 : ∀ (n : Nat) (v3 : Int32) (w_sO : Nat → Int32) (w_sL : Nat → Int32) (w_sW : Nat → Int64), k_X4_solve_L54 sU bM n v3 w_sO w_sL w_sW → ∀ (H : Heap) (locs : List Loc), va_P (gD G) vwCl [oX0 q_b q_bA q_bB q_bZ q_bG q_bP q_bQ bC bM bL bD, aI G q_bA 18 bA, aI G q_bB 60 bB, aI G q_bP 3 bP, oX2 q_r q_b q_rK q_rL q_rG, aI G q_rK 256 rK, aI G q_rL 256 rL, aI G q_rG 3 rG, oX4 q_s q_b q_r q_sZ q_sR q_sO q_sL q_sW q_sU, aI G q_sZ 64 sZ, aJ G q_sR 64 sR, aI G q_sO 256 w_sO, aI G q_sL 256 w_sL, aJ G q_sW 256 w_sW, aJ G q_sU 256 sU] H → va_D A [oX0 q_b q_bA q_bB q_bZ q_bG q_bP q_bQ bC bM bL bD, aI G q_bA 18 bA, aI G q_bB 60 bB, aI G q_bP 3 bP, oX2 q_r q_b q_rK q_rL q_rG, aI G q_rK 256 rK, aI G q_rL 256 rL, aI G q_rG 3 rG, oX4 q_s q_b q_r q_sZ q_sR q_sO q_sL q_sW q_sU, aI G q_sZ 64 sZ, aJ G q_sR 64 sR, aI G q_sO 256 w_sO, aI G q_sL 256 w_sL, aJ G q_sW 256 w_sW, aJ G q_sU 256 sU] → va_S A s.heap H locs → ∀ (ls : Array Slot), lv_has ls 4 [(0, .ref q_s), (1, .int x1), (2, .int (f_X0_fullSet bM)), (3, .int v3)] → (∀ (H : Heap) (locs : List Loc), va_P (gD G) vwCl [oX0 q_b q_bA q_bB q_bZ q_bG q_bP q_bQ bC bM bL bD, aI G q_bA 18 bA, aI G q_bB 60 bB, aI G q_bP 3 bP, oX2 q_r q_b q_rK q_rL q_rG, aI G q_rK 256 rK, aI G q_rL 256 rL, aI G q_rG 3 rG, oX4 q_s q_b q_r q_sZ q_sR q_sO q_sL q_sW q_sU, aI G q_sZ 64 sZ, aJ G q_sR 64 sR, aI G q_sO 256 ((f_X4_solve_L54 sU bM n v3 w_sO w_sL w_sW).2.1), aI G q_sL 256 ((f_X4_solve_L54 sU bM n v3 w_sO w_sL w_sW).2.2.1), aJ G q_sW 256 ((f_X4_solve_L54 sU bM n v3 w_sO w_sL w_sW).2.2.2), aJ G q_sU 256 sU] H → va_D A [oX0 q_b q_bA q_bB q_bZ q_bG q_bP q_bQ bC bM bL bD, aI G q_bA 18 bA, aI G q_bB 60 bB, aI G q_bP 3 bP, oX2 q_r q_b q_rK q_rL q_rG, aI G q_rK 256 rK, aI G q_rL 256 rL, aI G q_rG 3 rG, oX4 q_s q_b q_r q_sZ q_sR q_sO q_sL q_sW q_sU, aI G q_sZ 64 sZ, aJ G q_sR 64 sR, aI G q_sO 256 ((f_X4_solve_L54 sU bM n v3 w_sO w_sL w_sW).2.1), aI G q_sL 256 ((f_X4_solve_L54 sU bM n v3 w_sO w_sL w_sW).2.2.1), aJ G q_sW 256 ((f_X4_solve_L54 sU bM n v3 w_sO w_sL w_sW).2.2.2), aJ G q_sU 256 sU] → va_S A s.heap H locs → ∀ (ls : Array Slot), lv_has ls 4 [(0, .ref q_s), (1, .int x1), (2, .int (f_X0_fullSet bM)), (3, .int ((f_X4_solve_L54 sU bM n v3 w_sO w_sL w_sW).1))] → W p l e (rm 5) s m args below meth c H locs 0 0 Q (F0 m 70 ls [])) → W p l e (rm 5) s m args below meth c H locs 0 0 Q (F0 m 54 ls []) := by
    intro n
    induction n with
    | zero => intro v3 w_sO w_sL w_sW hk; exact (hk : False).elim
    | succ n ih =>
      intro v3 w_sO w_sL w_sW hk H locs hP hD hS ls hl kk
      rw [k_X4_solve_L54] at hk
      refine lv_iload_n hx hb dX4_solve_54 rfl (lv_at hl 3 rfl) ?_
      refine lv_iload_n hx hb dX4_solve_55 rfl (lv_at hl 2 rfl) ?_
      refine lv_icmp_ge (tgt := 70) hx hb dX4_solve_56 (by decide) (fun c_3 => ?_) (fun c_3 => ?_)
      · rw [if_pos c_3] at hk
        have e9 : f_X4_solve_L54 sU bM (n + 1) v3 w_sO w_sL w_sW = (v3, w_sO, w_sL, w_sW) := by rw [f_X4_solve_L54, if_pos c_3]
        rw [e9] at kk
        exact kk _ _ hP hD hS ls (lv_sub hl [0, 1, 2, 3] rfl)
      · rw [if_neg c_3] at hk
        refine lv_aload_n hx hb dX4_solve_59 rfl (lv_at hl 0 rfl) ?_
        refine lv_iload_n hx hb dX4_solve_60 rfl (lv_at hl 3 rfl) ?_
        obtain ⟨o_4, hk⟩ := hk
        refine wr_V (ci := 4) (q0 := 8) (As := [.int v3]) (rest := []) (wr := [oX0 q_b q_bA q_bB q_bZ q_bG q_bP q_bQ bC bM bL bD, aI G q_bA 18 bA, aI G q_bB 60 bB, aI G q_bP 3 bP, oX2 q_r q_b q_rK q_rL q_rG, aI G q_rK 256 rK, aI G q_rL 256 rL, aI G q_rG 3 rG, aI G q_sZ 64 sZ, aJ G q_sR 64 sR]) (wf := [oX0 q_b q_bA q_bB q_bZ q_bG q_bP q_bQ bC bM bL bD, aI G q_bA 18 bA, aI G q_bB 60 bB, aI G q_bP 3 bP, oX2 q_r q_b q_rK q_rL q_rG, aI G q_rK 256 rK, aI G q_rL 256 rL, aI G q_rG 3 rG, oX4 q_s q_b q_r q_sZ q_sR q_sO q_sL q_sW q_sU, aI G q_sZ 64 sZ, aJ G q_sR 64 sR, aI G q_sO 256 w_sO, aI G q_sL 256 ((f_X4_splitSet v3 w_sO w_sL w_sW sU).1), aJ G q_sW 256 ((f_X4_splitSet v3 w_sO w_sL w_sW sU).2), aJ G q_sU 256 sU]) (c_X4_splitSet l G q_s q_b q_r q_sZ q_sR q_sO q_sL q_sW q_sU w_sO w_sL w_sW sU v3 o_4) [8, 11, 12, 13, 14] [0, 1, 2, 3, 4, 5, 6, 7, 9, 10] [0, 1, 2, 3, 4, 5, 6, 7, 10, 8, 9, 11, 12, 13, 14] rfl rfl rfl (by decide) rfl rfl rfl gX4_solve_X4_splitSet ⟨_, rfl⟩ hd_X4_splitSet rfl dX4_solve_61 rfl rfl (Nat.le_of_ble_eq_true rfl) ⟨Nat.le_of_ble_eq_true rfl, Nat.le_of_ble_eq_true rfl⟩ ⟨Nat.le_refl 0, Nat.le_refl 0⟩ hx hb hml hown hts hB hD hS hA hP hl.1 (fun H locs hP hD hS => ?_)
        refine W.eq (g2 := F0 m 64 ls []) rfl ?_
        refine lv_iinc (v := (v3 + 2)) (lv' := [(3, .int (v3 + 2)), (0, .ref q_s), (1, .int x1), (2, .int (f_X0_fullSet bM))]) hx hb dX4_solve_64 hl (k := 3) rfl (by rfl) (by decide) rfl (fun ls hl => ?_)
        refine lv_goto (tgt := 54) hx hb dX4_solve_67 (by decide) ?_
        have e9 : f_X4_solve_L54 sU bM (n + 1) v3 w_sO w_sL w_sW = f_X4_solve_L54 sU bM n (v3 + 2) w_sO ((f_X4_splitSet v3 w_sO w_sL w_sW sU).1) ((f_X4_splitSet v3 w_sO w_sL w_sW sU).2) := by rw [f_X4_solve_L54, if_neg c_3]
        rw [e9] at kk
        exact ih (v3 + 2) w_sO ((f_X4_splitSet v3 w_sO w_sL w_sW sU).1) ((f_X4_splitSet v3 w_sO w_sL w_sW sU).2) hk _ _ hP hD hS ls (lv_sub hl [1, 2, 3, 0] rfl) kk
  obtain ⟨hkL, hk⟩ := hk
  refine L54 FU 2 ((f_X4_solve_L24 x1 rK rL rG bA bB bP bC bM FU 1 sO).2) (upd sL (Int32.toNatClampNeg 0) 0) (vp_updL sW (Int32.toNatClampNeg 0) 0) hkL _ _ hP hD hS ls (lv_sub hl [1, 2, 3, 0] rfl) (fun H locs hP hD hS ls hl => ?_)
  have hP : va_P (gD G) vwCl [oX0 q_b q_bA q_bB q_bZ q_bG q_bP q_bQ bC bM bL bD, aI G q_bA 18 bA, aI G q_bB 60 bB, aI G q_bP 3 bP, oX2 q_r q_b q_rK q_rL q_rG, aI G q_rK 256 rK, aI G q_rL 256 rL, aI G q_rG 3 rG, oX4 q_s q_b q_r q_sZ q_sR q_sO q_sL q_sW q_sU, aI G q_sZ 64 sZ, aJ G q_sR 64 sR, aI G q_sO 256 ((f_X4_solve_L54 sU bM FU 2 ((f_X4_solve_L24 x1 rK rL rG bA bB bP bC bM FU 1 sO).2) (upd sL (Int32.toNatClampNeg 0) 0) (vp_updL sW (Int32.toNatClampNeg 0) 0)).2.1), aI G q_sL 256 ((f_X4_solve_L54 sU bM FU 2 ((f_X4_solve_L24 x1 rK rL rG bA bB bP bC bM FU 1 sO).2) (upd sL (Int32.toNatClampNeg 0) 0) (vp_updL sW (Int32.toNatClampNeg 0) 0)).2.2.1), aJ G q_sW 256 ((f_X4_solve_L54 sU bM FU 2 ((f_X4_solve_L24 x1 rK rL rG bA bB bP bC bM FU 1 sO).2) (upd sL (Int32.toNatClampNeg 0) 0) (vp_updL sW (Int32.toNatClampNeg 0) 0)).2.2.2), aJ G q_sU 256 sU] H := hP
  have hD : va_D A [oX0 q_b q_bA q_bB q_bZ q_bG q_bP q_bQ bC bM bL bD, aI G q_bA 18 bA, aI G q_bB 60 bB, aI G q_bP 3 bP, oX2 q_r q_b q_rK q_rL q_rG, aI G q_rK 256 rK, aI G q_rL 256 rL, aI G q_rG 3 rG, oX4 q_s q_b q_r q_sZ q_sR q_sO q_sL q_sW q_sU, aI G q_sZ 64 sZ, aJ G q_sR 64 sR, aI G q_sO 256 ((f_X4_solve_L54 sU bM FU 2 ((f_X4_solve_L24 x1 rK rL rG bA bB bP bC bM FU 1 sO).2) (upd sL (Int32.toNatClampNeg 0) 0) (vp_updL sW (Int32.toNatClampNeg 0) 0)).2.1), aI G q_sL 256 ((f_X4_solve_L54 sU bM FU 2 ((f_X4_solve_L24 x1 rK rL rG bA bB bP bC bM FU 1 sO).2) (upd sL (Int32.toNatClampNeg 0) 0) (vp_updL sW (Int32.toNatClampNeg 0) 0)).2.2.1), aJ G q_sW 256 ((f_X4_solve_L54 sU bM FU 2 ((f_X4_solve_L24 x1 rK rL rG bA bB bP bC bM FU 1 sO).2) (upd sL (Int32.toNatClampNeg 0) 0) (vp_updL sW (Int32.toNatClampNeg 0) 0)).2.2.2), aJ G q_sU 256 sU] := hD
  exact T70 ((f_X4_solve_L54 sU bM FU 2 ((f_X4_solve_L24 x1 rK rL rG bA bB bP bC bM FU 1 sO).2) (upd sL (Int32.toNatClampNeg 0) 0) (vp_updL sW (Int32.toNatClampNeg 0) 0)).2.1) ((f_X4_solve_L54 sU bM FU 2 ((f_X4_solve_L24 x1 rK rL rG bA bB bP bC bM FU 1 sO).2) (upd sL (Int32.toNatClampNeg 0) 0) (vp_updL sW (Int32.toNatClampNeg 0) 0)).2.2.1) ((f_X4_solve_L54 sU bM FU 2 ((f_X4_solve_L24 x1 rK rL rG bA bB bP bC bM FU 1 sO).2) (upd sL (Int32.toNatClampNeg 0) 0) (vp_updL sW (Int32.toNatClampNeg 0) 0)).2.2.2) hk (by rw [f_X4_solve]) _ _ hP hD hS ls (lv_sub hl [0, 1, 2] rfl)

noncomputable def f_X4_leastCharge (x1 : Int32) (x2 : Int32) (rK : Nat → Int32) (rL : Nat → Int32) (rG : Nat → Int32) (sZ : Nat → Int32) (sR : Nat → Int64) (sO : Nat → Int32) (sL : Nat → Int32) (sW : Nat → Int64) (sU : Nat → Int64) (bA : Nat → Int32) (bB : Nat → Int32) (bZ : Nat → Int32) (bP : Nat → Int32) (bQ : Nat → Int32) (bC : Int32) (bM : Int32) : Int32 × (Nat → Int32) × (Nat → Int64) × (Nat → Int32) × (Nat → Int32) × (Nat → Int64) := (if (f_X6_at (f_X2_zonesAt x1 x2 bZ bQ bC) sZ 64) = (-1) then ((f_X6_at (f_X2_zonesAt x1 x2 bZ bQ bC) ((f_X4_solve (f_X2_zonesAt x1 x2 bZ bQ bC) rK rL rG sZ sR sO sL sW sU bA bB bP bC bM).1) 64), ((f_X4_solve (f_X2_zonesAt x1 x2 bZ bQ bC) rK rL rG sZ sR sO sL sW sU bA bB bP bC bM).1), ((f_X4_solve (f_X2_zonesAt x1 x2 bZ bQ bC) rK rL rG sZ sR sO sL sW sU bA bB bP bC bM).2.1), ((f_X4_solve (f_X2_zonesAt x1 x2 bZ bQ bC) rK rL rG sZ sR sO sL sW sU bA bB bP bC bM).2.2.1), ((f_X4_solve (f_X2_zonesAt x1 x2 bZ bQ bC) rK rL rG sZ sR sO sL sW sU bA bB bP bC bM).2.2.2.1), ((f_X4_solve (f_X2_zonesAt x1 x2 bZ bQ bC) rK rL rG sZ sR sO sL sW sU bA bB bP bC bM).2.2.2.2)) else ((f_X6_at (f_X2_zonesAt x1 x2 bZ bQ bC) sZ 64), sZ, sR, sO, sL, sW))
noncomputable def k_X4_leastCharge (x1 : Int32) (x2 : Int32) (rK : Nat → Int32) (rL : Nat → Int32) (rG : Nat → Int32) (sZ : Nat → Int32) (sO : Nat → Int32) (sL : Nat → Int32) (sW : Nat → Int64) (sU : Nat → Int64) (bA : Nat → Int32) (bB : Nat → Int32) (bZ : Nat → Int32) (bP : Nat → Int32) (bQ : Nat → Int32) (bC : Int32) (bM : Int32) : Prop := (k_X2_zonesAt x1 x2 bZ bQ bC ∧ (if (f_X6_at (f_X2_zonesAt x1 x2 bZ bQ bC) sZ 64) = (-1) then (k_X4_solve (f_X2_zonesAt x1 x2 bZ bQ bC) rK rL rG sZ sO sL sW sU bA bB bP bC bM ∧ True) else True))
theorem hd_X4_leastCharge : yX4_leastCharge.cls ≠ "java/lang/invoke/MethodHandle" ∧ yX4_leastCharge.cls ≠ "java/lang/invoke/VarHandle" ∧ (parseMethodDescriptor yX4_leastCharge.desc).map (fun d => d.parameters.length) = some 2 := by decide +kernel
set_option maxHeartbeats 4000000 in
set_option maxRecDepth 100000 in
theorem c_X4_leastCharge (l : Launch) (G : BGT) (q_b q_bA q_bB q_bZ q_bG q_bP q_bQ q_r q_rK q_rL q_rG q_s q_sZ q_sR q_sO q_sL q_sW q_sU : Nat) (bC : Int32) (bM : Int32) (bL : Int32) (bD : Int32) (bA : Nat → Int32) (bB : Nat → Int32) (bZ : Nat → Int32) (bP : Nat → Int32) (bQ : Nat → Int32) (rK : Nat → Int32) (rL : Nat → Int32) (rG : Nat → Int32) (sZ : Nat → Int32) (sR : Nat → Int64) (sO : Nat → Int32) (sL : Nat → Int32) (sW : Nat → Int64) (sU : Nat → Int64) (x1 : Int32) (x2 : Int32) (hk : k_X4_leastCharge x1 x2 rK rL rG sZ sO sL sW sU bA bB bZ bP bQ bC bM) : WR l yX4_leastCharge wsX4_leastCharge 6 G [oX0 q_b q_bA q_bB q_bZ q_bG q_bP q_bQ bC bM bL bD, aI G q_bA 18 bA, aI G q_bB 60 bB, aI G q_bZ 45 bZ, aI G q_bP 3 bP, aI G q_bQ 3 bQ, oX2 q_r q_b q_rK q_rL q_rG, aI G q_rK 256 rK, aI G q_rL 256 rL, aI G q_rG 3 rG, oX4 q_s q_b q_r q_sZ q_sR q_sO q_sL q_sW q_sU, aI G q_sZ 64 sZ, aJ G q_sR 64 sR, aI G q_sO 256 sO, aI G q_sL 256 sL, aJ G q_sW 256 sW, aJ G q_sU 256 sU] [oX0 q_b q_bA q_bB q_bZ q_bG q_bP q_bQ bC bM bL bD, aI G q_bA 18 bA, aI G q_bB 60 bB, aI G q_bZ 45 bZ, aI G q_bP 3 bP, aI G q_bQ 3 bQ, oX2 q_r q_b q_rK q_rL q_rG, aI G q_rK 256 rK, aI G q_rL 256 rL, aI G q_rG 3 rG, oX4 q_s q_b q_r q_sZ q_sR q_sO q_sL q_sW q_sU, aI G q_sZ 64 ((f_X4_leastCharge x1 x2 rK rL rG sZ sR sO sL sW sU bA bB bZ bP bQ bC bM).2.1), aJ G q_sR 64 ((f_X4_leastCharge x1 x2 rK rL rG sZ sR sO sL sW sU bA bB bZ bP bQ bC bM).2.2.1), aI G q_sO 256 ((f_X4_leastCharge x1 x2 rK rL rG sZ sR sO sL sW sU bA bB bZ bP bQ bC bM).2.2.2.1), aI G q_sL 256 ((f_X4_leastCharge x1 x2 rK rL rG sZ sR sO sL sW sU bA bB bZ bP bQ bC bM).2.2.2.2.1), aJ G q_sW 256 ((f_X4_leastCharge x1 x2 rK rL rG sZ sR sO sL sW sU bA bB bZ bP bQ bC bM).2.2.2.2.2), aJ G q_sU 256 sU] [.ref q_s, .int x1, .int x2] (some (.int ((f_X4_leastCharge x1 x2 rK rL rG sZ sR sO sL sW sU bA bB bZ bP bQ bC bM).1))) := by
  refine WR.ofW (cc := cX4_leastCharge) (maxL := 4) (ret := (some .int)) (C := RX4) (by decide) rfl rfl (Nat.le_of_ble_eq_true rfl) ?_
  intro p e s m args below meth c Q ls A hx hb hml hts hown hP hD hS hA hB hl fi fv
  have hl : lv_has ls 4 [(0, .ref q_s), (1, .int x1), (2, .int x2)] := hl
  have t_0 := hts (.fieldLink RX4 35 "ParcelSplit$Splitter" "prices" "LParcelSplit$Prices;") (by decide +kernel)
  have t_1 := hts (.fieldLink RX4 11 "ParcelSplit$Splitter" "leastByZones" "[I") (by decide +kernel)
  have m_0 : Cond.initialized RX6 ∈ wsX4_leastCharge := by decide +kernel
  have m_1 : Cond.static yX6_at ∈ wsX4_leastCharge := by decide +kernel
  have i_X4 : ∀ w ∈ wsX40, w ∈ wsX4_leastCharge := by decide +kernel
  rw [k_X4_leastCharge] at hk
  refine lv_aload_n hx hb dX4_leastCharge_0 rfl (lv_at hl 0 rfl) ?_
  refine va_get (D := gD G) (ci := 4) (v := .ref q_r) (C := RX4) (T := TX4) (N := 8) hx hb hts i_X4 hown hB.1 hP 10 rfl rfl 1 (by decide) t_0 (fun _ h9 => h9) rfl dX4_leastCharge_1 ?_
  refine lv_iload_n hx hb dX4_leastCharge_4 rfl (lv_at hl 1 rfl) ?_
  refine lv_iload_n hx hb dX4_leastCharge_5 rfl (lv_at hl 2 rfl) ?_
  obtain ⟨o_1, hk⟩ := hk
  refine ro_V (ci := 2) (q0 := 6) (As := [.int x1, .int x2]) (rest := []) (c_X2_zonesAt l G q_b q_bA q_bB q_bZ q_bG q_bP q_bQ q_r q_rK q_rL q_rG bC bM bL bD bZ bQ x1 x2 o_1) [0, 3, 5, 6] rfl rfl rfl rfl gX4_leastCharge_X2_zonesAt ⟨_, rfl⟩ hd_X2_zonesAt rfl dX4_leastCharge_6 rfl rfl (Nat.le_of_ble_eq_true rfl) ⟨Nat.le_of_ble_eq_true rfl, Nat.le_of_ble_eq_true rfl⟩ ⟨Nat.le_refl 0, Nat.le_refl 0⟩ hx hb hml hown hts hB hS hP hl.1 ?_
  refine W.eq (g2 := F0 m 9 ls [.int (f_X2_zonesAt x1 x2 bZ bQ bC)]) rfl ?_
  refine lv_istore_n (lv' := [(3, .int (f_X2_zonesAt x1 x2 bZ bQ bC)), (0, .ref q_s), (1, .int x1), (2, .int x2)]) hx hb dX4_leastCharge_9 rfl hl (by decide) rfl (fun ls hl => ?_)
  refine lv_aload_n hx hb dX4_leastCharge_10 rfl (lv_at hl 1 rfl) ?_
  refine va_get (D := gD G) (ci := 4) (v := .ref q_sZ) (C := RX4) (T := TX4) (N := 8) hx hb hts i_X4 hown hB.1 hP 10 rfl rfl 2 (by decide) t_1 (fun _ h9 => h9) rfl dX4_leastCharge_11 ?_
  refine lv_iload_n hx hb dX4_leastCharge_14 rfl (lv_at hl 0 rfl) ?_
  refine ro_SN (As := [.ref q_sZ, .int (f_X2_zonesAt x1 x2 bZ bQ bC)]) (rest := []) (c_X6_at l G 64 (by decide) q_sZ sZ (f_X2_zonesAt x1 x2 bZ bQ bC)) [11] rfl gX4_leastCharge_X6_at_n64 ⟨_, rfl⟩ hd_X6_at 12 rfl m_0 m_1 dX4_leastCharge_15 rfl rfl (Nat.le_of_ble_eq_true rfl) ⟨Nat.le_of_ble_eq_true rfl, Nat.le_of_ble_eq_true rfl⟩ ⟨Nat.le_refl 0, Nat.le_refl 0⟩ hx hb hml hown hts hB hS hP hl.1 ?_
  refine W.eq (g2 := F0 m 18 ls [.int (f_X6_at (f_X2_zonesAt x1 x2 bZ bQ bC) sZ 64)]) rfl ?_
  refine lv_iconst (v := (-1)) hx hb dX4_leastCharge_18 (by decide) ?_
  refine lv_icmp_ne (tgt := 27) hx hb dX4_leastCharge_19 (by decide) (fun c_2 => ?_) (fun c_2 => ?_)
  · rw [if_neg c_2] at hk
    refine lv_aload_n hx hb dX4_leastCharge_27 rfl (lv_at hl 1 rfl) ?_
    refine va_get (D := gD G) (ci := 4) (v := .ref q_sZ) (C := RX4) (T := TX4) (N := 8) hx hb hts i_X4 hown hB.1 hP 10 rfl rfl 2 (by decide) t_1 (fun _ h9 => h9) rfl dX4_leastCharge_28 ?_
    refine lv_iload_n hx hb dX4_leastCharge_31 rfl (lv_at hl 0 rfl) ?_
    refine ro_SN (As := [.ref q_sZ, .int (f_X2_zonesAt x1 x2 bZ bQ bC)]) (rest := []) (c_X6_at l G 64 (by decide) q_sZ sZ (f_X2_zonesAt x1 x2 bZ bQ bC)) [11] rfl gX4_leastCharge_X6_at_n64 ⟨_, rfl⟩ hd_X6_at 12 rfl m_0 m_1 dX4_leastCharge_32 rfl rfl (Nat.le_of_ble_eq_true rfl) ⟨Nat.le_of_ble_eq_true rfl, Nat.le_of_ble_eq_true rfl⟩ ⟨Nat.le_refl 0, Nat.le_refl 0⟩ hx hb hml hown hts hB hS hP hl.1 ?_
    refine W.eq (g2 := F0 m 35 ls [.int (f_X6_at (f_X2_zonesAt x1 x2 bZ bQ bC) sZ 64)]) rfl ?_
    have e9 : f_X4_leastCharge x1 x2 rK rL rG sZ sR sO sL sW sU bA bB bZ bP bQ bC bM = ((f_X6_at (f_X2_zonesAt x1 x2 bZ bQ bC) sZ 64), sZ, sR, sO, sL, sW) := by rw [f_X4_leastCharge, if_neg c_2]
    exact fi 35 _ (f_X6_at (f_X2_zonesAt x1 x2 bZ bQ bC) sZ 64) .int _ _ rfl rfl dX4_leastCharge_35 (by simp only [e9]) (by rw [e9]; exact hP) (by rw [e9]; exact hD) hS
  · rw [if_pos c_2] at hk
    refine lv_aload_n hx hb dX4_leastCharge_22 rfl (lv_at hl 1 rfl) ?_
    refine lv_iload_n hx hb dX4_leastCharge_23 rfl (lv_at hl 0 rfl) ?_
    obtain ⟨o_3, hk⟩ := hk
    refine wr_V (ci := 4) (q0 := 10) (As := [.int (f_X2_zonesAt x1 x2 bZ bQ bC)]) (rest := []) (wr := [aI G q_bZ 45 bZ, aI G q_bQ 3 bQ]) (wf := [oX0 q_b q_bA q_bB q_bZ q_bG q_bP q_bQ bC bM bL bD, aI G q_bA 18 bA, aI G q_bB 60 bB, aI G q_bZ 45 bZ, aI G q_bP 3 bP, aI G q_bQ 3 bQ, oX2 q_r q_b q_rK q_rL q_rG, aI G q_rK 256 rK, aI G q_rL 256 rL, aI G q_rG 3 rG, oX4 q_s q_b q_r q_sZ q_sR q_sO q_sL q_sW q_sU, aI G q_sZ 64 ((f_X4_solve (f_X2_zonesAt x1 x2 bZ bQ bC) rK rL rG sZ sR sO sL sW sU bA bB bP bC bM).1), aJ G q_sR 64 ((f_X4_solve (f_X2_zonesAt x1 x2 bZ bQ bC) rK rL rG sZ sR sO sL sW sU bA bB bP bC bM).2.1), aI G q_sO 256 ((f_X4_solve (f_X2_zonesAt x1 x2 bZ bQ bC) rK rL rG sZ sR sO sL sW sU bA bB bP bC bM).2.2.1), aI G q_sL 256 ((f_X4_solve (f_X2_zonesAt x1 x2 bZ bQ bC) rK rL rG sZ sR sO sL sW sU bA bB bP bC bM).2.2.2.1), aJ G q_sW 256 ((f_X4_solve (f_X2_zonesAt x1 x2 bZ bQ bC) rK rL rG sZ sR sO sL sW sU bA bB bP bC bM).2.2.2.2), aJ G q_sU 256 sU]) (c_X4_solve l G q_b q_bA q_bB q_bZ q_bG q_bP q_bQ q_r q_rK q_rL q_rG q_s q_sZ q_sR q_sO q_sL q_sW q_sU bC bM bL bD bA bB bP rK rL rG sZ sR sO sL sW sU (f_X2_zonesAt x1 x2 bZ bQ bC) o_3) [0, 1, 2, 4, 6, 7, 8, 9, 10, 11, 12, 13, 14, 15, 16] [3, 5] [2, 3, 4, 0, 5, 1, 6, 7, 8, 9, 10, 11, 12, 13, 14, 15, 16] rfl rfl rfl (by decide) rfl rfl rfl gX4_leastCharge_X4_solve ⟨_, rfl⟩ hd_X4_solve rfl dX4_leastCharge_24 rfl rfl (Nat.le_of_ble_eq_true rfl) ⟨Nat.le_of_ble_eq_true rfl, Nat.le_of_ble_eq_true rfl⟩ ⟨Nat.le_refl 0, Nat.le_refl 0⟩ hx hb hml hown hts hB hD hS hA hP hl.1 (fun H locs hP hD hS => ?_)
    refine W.eq (g2 := F0 m 27 ls []) rfl ?_
    refine lv_aload_n hx hb dX4_leastCharge_27 rfl (lv_at hl 1 rfl) ?_
    refine va_get (D := gD G) (ci := 4) (v := .ref q_sZ) (C := RX4) (T := TX4) (N := 8) hx hb hts i_X4 hown hB.1 hP 10 rfl rfl 2 (by decide) t_1 (fun _ h9 => h9) rfl dX4_leastCharge_28 ?_
    refine lv_iload_n hx hb dX4_leastCharge_31 rfl (lv_at hl 0 rfl) ?_
    refine ro_SN (As := [.ref q_sZ, .int (f_X2_zonesAt x1 x2 bZ bQ bC)]) (rest := []) (c_X6_at l G 64 (by decide) q_sZ ((f_X4_solve (f_X2_zonesAt x1 x2 bZ bQ bC) rK rL rG sZ sR sO sL sW sU bA bB bP bC bM).1) (f_X2_zonesAt x1 x2 bZ bQ bC)) [11] rfl gX4_leastCharge_X6_at_n64 ⟨_, rfl⟩ hd_X6_at 12 rfl m_0 m_1 dX4_leastCharge_32 rfl rfl (Nat.le_of_ble_eq_true rfl) ⟨Nat.le_of_ble_eq_true rfl, Nat.le_of_ble_eq_true rfl⟩ ⟨Nat.le_refl 0, Nat.le_refl 0⟩ hx hb hml hown hts hB hS hP hl.1 ?_
    refine W.eq (g2 := F0 m 35 ls [.int (f_X6_at (f_X2_zonesAt x1 x2 bZ bQ bC) ((f_X4_solve (f_X2_zonesAt x1 x2 bZ bQ bC) rK rL rG sZ sR sO sL sW sU bA bB bP bC bM).1) 64)]) rfl ?_
    have e9 : f_X4_leastCharge x1 x2 rK rL rG sZ sR sO sL sW sU bA bB bZ bP bQ bC bM = ((f_X6_at (f_X2_zonesAt x1 x2 bZ bQ bC) ((f_X4_solve (f_X2_zonesAt x1 x2 bZ bQ bC) rK rL rG sZ sR sO sL sW sU bA bB bP bC bM).1) 64), ((f_X4_solve (f_X2_zonesAt x1 x2 bZ bQ bC) rK rL rG sZ sR sO sL sW sU bA bB bP bC bM).1), ((f_X4_solve (f_X2_zonesAt x1 x2 bZ bQ bC) rK rL rG sZ sR sO sL sW sU bA bB bP bC bM).2.1), ((f_X4_solve (f_X2_zonesAt x1 x2 bZ bQ bC) rK rL rG sZ sR sO sL sW sU bA bB bP bC bM).2.2.1), ((f_X4_solve (f_X2_zonesAt x1 x2 bZ bQ bC) rK rL rG sZ sR sO sL sW sU bA bB bP bC bM).2.2.2.1), ((f_X4_solve (f_X2_zonesAt x1 x2 bZ bQ bC) rK rL rG sZ sR sO sL sW sU bA bB bP bC bM).2.2.2.2)) := by rw [f_X4_leastCharge, if_pos c_2]
    exact fi 35 _ (f_X6_at (f_X2_zonesAt x1 x2 bZ bQ bC) ((f_X4_solve (f_X2_zonesAt x1 x2 bZ bQ bC) rK rL rG sZ sR sO sL sW sU bA bB bP bC bM).1) 64) .int _ _ rfl rfl dX4_leastCharge_35 (by simp only [e9]) (by rw [e9]; exact hP) (by rw [e9]; exact hD) hS

noncomputable def f_X4_leastRow (x1 : Int32) (x2 : Int32) (sR : Nat → Int64) (bZ : Nat → Int32) (bQ : Nat → Int32) (bC : Int32) : Int64 := (if (f_X2_zonesAt x1 x2 bZ bQ bC) < 0 then 0 else (if 64 ≤ (f_X2_zonesAt x1 x2 bZ bQ bC) then 0 else (sR (Int32.toNatClampNeg (f_X2_zonesAt x1 x2 bZ bQ bC)))))
noncomputable def k_X4_leastRow (x1 : Int32) (x2 : Int32) (bZ : Nat → Int32) (bQ : Nat → Int32) (bC : Int32) : Prop := (k_X2_zonesAt x1 x2 bZ bQ bC ∧ True)
theorem hd_X4_leastRow : yX4_leastRow.cls ≠ "java/lang/invoke/MethodHandle" ∧ yX4_leastRow.cls ≠ "java/lang/invoke/VarHandle" ∧ (parseMethodDescriptor yX4_leastRow.desc).map (fun d => d.parameters.length) = some 2 := by decide +kernel
set_option maxHeartbeats 4000000 in
set_option maxRecDepth 100000 in
theorem c_X4_leastRow (l : Launch) (G : BGT) (q_b q_bA q_bB q_bZ q_bG q_bP q_bQ q_r q_rK q_rL q_rG q_s q_sZ q_sR q_sO q_sL q_sW q_sU : Nat) (bC : Int32) (bM : Int32) (bL : Int32) (bD : Int32) (bZ : Nat → Int32) (bQ : Nat → Int32) (sR : Nat → Int64) (x1 : Int32) (x2 : Int32) (hk : k_X4_leastRow x1 x2 bZ bQ bC) : RO l yX4_leastRow wsX4_leastRow 4 G [oX0 q_b q_bA q_bB q_bZ q_bG q_bP q_bQ bC bM bL bD, aI G q_bZ 45 bZ, aI G q_bQ 3 bQ, oX2 q_r q_b q_rK q_rL q_rG, oX4 q_s q_b q_r q_sZ q_sR q_sO q_sL q_sW q_sU, aJ G q_sR 64 sR] [.ref q_s, .int x1, .int x2] (some (.long (f_X4_leastRow x1 x2 sR bZ bQ bC))) := by
  refine RO.ofW (cc := cX4_leastRow) (maxL := 4) (ret := (some .long)) (C := RX4) (by decide) rfl rfl (Nat.le_of_ble_eq_true rfl) ?_
  intro p e s m args below meth c Q ls hx hb hml hts hown hP hB hl fi fl fv
  have hS : va_S (fun _ => False) s.heap s.heap [] := va_S.rf
  have hl : lv_has ls 4 [(0, .ref q_s), (1, .int x1), (2, .int x2)] := hl
  have t_0 := hts (.fieldLink RX4 35 "ParcelSplit$Splitter" "prices" "LParcelSplit$Prices;") (by decide +kernel)
  have t_1 := hts (.fieldLink RX4 15 "ParcelSplit$Splitter" "rowByZones" "[J") (by decide +kernel)
  have i_X4 : ∀ w ∈ wsX40, w ∈ wsX4_leastRow := by decide +kernel
  rw [k_X4_leastRow] at hk
  refine lv_aload_n hx hb dX4_leastRow_0 rfl (lv_at hl 0 rfl) ?_
  refine va_get (D := gD G) (ci := 4) (v := .ref q_r) (C := RX4) (T := TX4) (N := 8) hx hb hts i_X4 hown hB.1 hP 4 rfl rfl 1 (by decide) t_0 (fun _ h9 => h9) rfl dX4_leastRow_1 ?_
  refine lv_iload_n hx hb dX4_leastRow_4 rfl (lv_at hl 1 rfl) ?_
  refine lv_iload_n hx hb dX4_leastRow_5 rfl (lv_at hl 2 rfl) ?_
  obtain ⟨o_1, hk⟩ := hk
  refine ro_V (ci := 2) (q0 := 3) (As := [.int x1, .int x2]) (rest := []) (c_X2_zonesAt l G q_b q_bA q_bB q_bZ q_bG q_bP q_bQ q_r q_rK q_rL q_rG bC bM bL bD bZ bQ x1 x2 o_1) [0, 1, 2, 3] rfl rfl rfl rfl gX4_leastRow_X2_zonesAt ⟨_, rfl⟩ hd_X2_zonesAt rfl dX4_leastRow_6 rfl rfl (Nat.le_of_ble_eq_true rfl) ⟨Nat.le_of_ble_eq_true rfl, Nat.le_of_ble_eq_true rfl⟩ ⟨Nat.le_refl 0, Nat.le_refl 0⟩ hx hb hml hown hts hB hS hP hl.1 ?_
  refine W.eq (g2 := F0 m 9 ls [.int (f_X2_zonesAt x1 x2 bZ bQ bC)]) rfl ?_
  refine lv_istore_n (lv' := [(3, .int (f_X2_zonesAt x1 x2 bZ bQ bC)), (0, .ref q_s), (1, .int x1), (2, .int x2)]) hx hb dX4_leastRow_9 rfl hl (by decide) rfl (fun ls hl => ?_)
  refine lv_iload_n hx hb dX4_leastRow_10 rfl (lv_at hl 0 rfl) ?_
  refine lv_if_lt (tgt := 32) hx hb dX4_leastRow_11 (by decide) (fun c_2 => ?_) (fun c_2 => ?_)
  · refine lv_lconst (v := 0) hx hb dX4_leastRow_32 (by decide) ?_
    exact fl 33 _ 0 rfl dX4_leastRow_33 (by rw [f_X4_leastRow, if_pos c_2])
  · refine lv_iload_n hx hb dX4_leastRow_14 rfl (lv_at hl 0 rfl) ?_
    refine lv_aload_n hx hb dX4_leastRow_15 rfl (lv_at hl 1 rfl) ?_
    refine va_get (D := gD G) (ci := 4) (v := .ref q_sR) (C := RX4) (T := TX4) (N := 8) hx hb hts i_X4 hown hB.1 hP 4 rfl rfl 3 (by decide) t_1 (fun _ h9 => h9) rfl dX4_leastRow_16 ?_
    refine va_alen (v := 64) hx hb hB.1 hP 5 2 rfl (ty := .long) rfl rfl dX4_leastRow_19 ?_
    refine lv_icmp_ge (tgt := 32) hx hb dX4_leastRow_20 (by decide) (fun c_3 => ?_) (fun c_3 => ?_)
    · refine lv_lconst (v := 0) hx hb dX4_leastRow_32 (by decide) ?_
      exact fl 33 _ 0 rfl dX4_leastRow_33 (by rw [f_X4_leastRow, if_neg c_2, if_pos c_3])
    · refine lv_aload_n hx hb dX4_leastRow_23 rfl (lv_at hl 1 rfl) ?_
      refine va_get (D := gD G) (ci := 4) (v := .ref q_sR) (C := RX4) (T := TX4) (N := 8) hx hb hts i_X4 hown hB.1 hP 4 rfl rfl 3 (by decide) t_1 (fun _ h9 => h9) rfl dX4_leastRow_24 ?_
      refine lv_iload_n hx hb dX4_leastRow_27 rfl (lv_at hl 0 rfl) ?_
      refine va_lald hx hb hB.1 hP 5 2 rfl rfl (in_of c_2 c_3 (Nat.le_of_ble_eq_true rfl)) dX4_leastRow_28 ?_
      refine lv_goto (tgt := 33) hx hb dX4_leastRow_29 (by decide) ?_
      exact fl 33 _ (sR (Int32.toNatClampNeg (f_X2_zonesAt x1 x2 bZ bQ bC))) rfl dX4_leastRow_33 (by rw [f_X4_leastRow, if_neg c_2, if_neg c_3])
