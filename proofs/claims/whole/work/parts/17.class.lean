def f_X6_zoneNow (x1 : Int32) (pS : Nat → Int32) (bZ : Nat → Int32) (bQ : Nat → Int32) : Int32 := (f_X2_zoneOf x1 (f_X1_place pS) (f_X1_day pS) bZ bQ)
def k_X6_zoneNow (x1 : Int32) (pS : Nat → Int32) (bZ : Nat → Int32) (bQ : Nat → Int32) : Prop := (k_X2_zoneOf x1 (f_X1_place pS) (f_X1_day pS) bZ bQ ∧ True)
theorem hd_X6_zoneNow : yX6_zoneNow.cls ≠ "java/lang/invoke/MethodHandle" ∧ yX6_zoneNow.cls ≠ "java/lang/invoke/VarHandle" ∧ (parseMethodDescriptor yX6_zoneNow.desc).map (fun d => d.parameters.length) = some 1 := by decide +kernel
set_option maxHeartbeats 4000000 in
set_option maxRecDepth 100000 in
theorem c_X6_zoneNow (l : Launch) (G : BGT) (q_x q_t q_b q_d q_e q_r q_s q_p q_bA q_bB q_bZ q_bG q_bP q_bQ q_rK q_rL q_rG q_pS q_pE : Nat) (xF : Int32) (bC : Int32) (bM : Int32) (bL : Int32) (bD : Int32) (bZ : Nat → Int32) (bQ : Nat → Int32) (pN : Int32) (pK : Int32) (pS : Nat → Int32) (x1 : Int32) (hk : k_X6_zoneNow x1 pS bZ bQ) : RO l yX6_zoneNow wsX6_zoneNow 3 G [oX6 q_x q_t q_b q_d q_e q_r q_s q_p xF, oX0 q_b q_bA q_bB q_bZ q_bG q_bP q_bQ bC bM bL bD, aI G q_bZ 45 bZ, aI G q_bQ 3 bQ, oX2 q_r q_b q_rK q_rL q_rG, oX1 q_p q_pS q_pE pN pK, aI G q_pS 26 pS] [.ref q_x, .int x1] (some (.int (f_X6_zoneNow x1 pS bZ bQ))) := by
  refine RO.ofW (cc := cX6_zoneNow) (maxL := 2) (ret := (some .int)) (C := RX6) (by decide) rfl rfl (Nat.le_of_ble_eq_true rfl) ?_
  intro p e s m args below meth c Q ls hx hb hml hts hown hP hB hl fi fl fv
  have hS : va_S (fun _ => False) s.heap s.heap [] := va_S.rf
  have hl : lv_has ls 2 [(0, .ref q_x), (1, .int x1)] := hl
  have t_0 := hts (.fieldLink RX6 40 "ParcelSplit" "prices" "LParcelSplit$Prices;") (by decide +kernel)
  have t_1 := hts (.fieldLink RX6 56 "ParcelSplit" "plan" "LParcelSplit$Plan;") (by decide +kernel)
  have i_X6 : ∀ w ∈ wsX60, w ∈ wsX6_zoneNow := by decide +kernel
  rw [k_X6_zoneNow] at hk
  refine lv_aload_n hx hb dX6_zoneNow_0 rfl (lv_at hl 0 rfl) ?_
  refine va_get (D := gD G) (ci := 6) (v := .ref q_r) (C := RX6) (T := TX6) (N := 8) hx hb hts i_X6 hown hB.1 hP 0 rfl rfl 4 (by decide) t_0 (fun _ h9 => h9) rfl dX6_zoneNow_1 ?_
  refine lv_iload_n hx hb dX6_zoneNow_4 rfl (lv_at hl 1 rfl) ?_
  refine lv_aload_n hx hb dX6_zoneNow_5 rfl (lv_at hl 0 rfl) ?_
  refine va_get (D := gD G) (ci := 6) (v := .ref q_p) (C := RX6) (T := TX6) (N := 8) hx hb hts i_X6 hown hB.1 hP 0 rfl rfl 6 (by decide) t_1 (fun _ h9 => h9) rfl dX6_zoneNow_6 ?_
  refine ro_V (ci := 1) (q0 := 5) (As := []) (rest := [.int x1, .ref q_r]) (c_X1_place l G q_p q_pS q_pE pN pK pS) [5, 6] rfl rfl rfl rfl gX6_zoneNow_X1_place ⟨_, rfl⟩ hd_X1_place rfl dX6_zoneNow_9 rfl rfl (Nat.le_of_ble_eq_true rfl) ⟨Nat.le_of_ble_eq_true rfl, Nat.le_of_ble_eq_true rfl⟩ ⟨Nat.le_refl 0, Nat.le_refl 0⟩ hx hb hml hown hts hB hS hP hl.1 ?_
  refine W.eq (g2 := F0 m 12 ls [.int (f_X1_place pS), .int x1, .ref q_r]) rfl ?_
  refine lv_aload_n hx hb dX6_zoneNow_12 rfl (lv_at hl 0 rfl) ?_
  refine va_get (D := gD G) (ci := 6) (v := .ref q_p) (C := RX6) (T := TX6) (N := 8) hx hb hts i_X6 hown hB.1 hP 0 rfl rfl 6 (by decide) t_1 (fun _ h9 => h9) rfl dX6_zoneNow_13 ?_
  refine ro_V (ci := 1) (q0 := 5) (As := []) (rest := [.int (f_X1_place pS), .int x1, .ref q_r]) (c_X1_day l G q_p q_pS q_pE pN pK pS) [5, 6] rfl rfl rfl rfl gX6_zoneNow_X1_day ⟨_, rfl⟩ hd_X1_day rfl dX6_zoneNow_16 rfl rfl (Nat.le_of_ble_eq_true rfl) ⟨Nat.le_of_ble_eq_true rfl, Nat.le_of_ble_eq_true rfl⟩ ⟨Nat.le_refl 0, Nat.le_refl 0⟩ hx hb hml hown hts hB hS hP hl.1 ?_
  refine W.eq (g2 := F0 m 19 ls [.int (f_X1_day pS), .int (f_X1_place pS), .int x1, .ref q_r]) rfl ?_
  obtain ⟨o_1, hk⟩ := hk
  refine ro_V (ci := 2) (q0 := 4) (As := [.int x1, .int (f_X1_place pS), .int (f_X1_day pS)]) (rest := []) (c_X2_zoneOf l G q_b q_bA q_bB q_bZ q_bG q_bP q_bQ q_r q_rK q_rL q_rG bC bM bL bD bZ bQ x1 (f_X1_place pS) (f_X1_day pS) o_1) [1, 2, 3, 4] rfl rfl rfl rfl gX6_zoneNow_X2_zoneOf ⟨_, rfl⟩ hd_X2_zoneOf rfl dX6_zoneNow_19 rfl rfl (Nat.le_of_ble_eq_true rfl) ⟨Nat.le_of_ble_eq_true rfl, Nat.le_of_ble_eq_true rfl⟩ ⟨Nat.le_refl 0, Nat.le_refl 0⟩ hx hb hml hown hts hB hS hP hl.1 ?_
  refine W.eq (g2 := F0 m 22 ls [.int (f_X2_zoneOf x1 (f_X1_place pS) (f_X1_day pS) bZ bQ)]) rfl ?_
  exact fi 22 _ (f_X2_zoneOf x1 (f_X1_place pS) (f_X1_day pS) bZ bQ) .int rfl rfl dX6_zoneNow_22 (by rw [f_X6_zoneNow])

def f_X6_parcelCharge (x1 : Int32) (x2 : Int32) (rK : Nat → Int32) (rL : Nat → Int32) (rG : Nat → Int32) (pS : Nat → Int32) (bA : Nat → Int32) (bB : Nat → Int32) (bZ : Nat → Int32) (bP : Nat → Int32) (bQ : Nat → Int32) : Int32 := (if (f_X1_goodsIn x1 pS) = 0 then 0 else (if x2 = 0 then (f_X2_chargeOf (f_X1_goodsIn x1 pS) (f_X1_carrierOf x1 pS) (f_X6_zoneNow (f_X1_carrierOf x1 pS) pS bZ bQ) (f_X2_kilosOf (f_X1_goodsIn x1 pS) rK) rL rG bA bB bP) else (if (f_X1_claimedOf x1 pS) ≤ 0 then (f_X2_chargeOf (f_X1_goodsIn x1 pS) (f_X1_carrierOf x1 pS) (f_X6_zoneNow (f_X1_carrierOf x1 pS) pS bZ bQ) (f_X2_kilosOf (f_X1_goodsIn x1 pS) rK) rL rG bA bB bP) else (f_X2_chargeOf (f_X1_goodsIn x1 pS) (f_X1_carrierOf x1 pS) (f_X6_zoneNow (f_X1_carrierOf x1 pS) pS bZ bQ) (f_X1_claimedOf x1 pS) rL rG bA bB bP))))
def k_X6_parcelCharge (x1 : Int32) (x2 : Int32) (rK : Nat → Int32) (rL : Nat → Int32) (rG : Nat → Int32) (pS : Nat → Int32) (bA : Nat → Int32) (bB : Nat → Int32) (bZ : Nat → Int32) (bP : Nat → Int32) (bQ : Nat → Int32) : Prop := (k_X1_goodsIn x1 pS ∧ (if (f_X1_goodsIn x1 pS) = 0 then True else (if x2 = 0 then (k_X6_zoneNow (f_X1_carrierOf x1 pS) pS bZ bQ ∧ (k_X2_chargeOf (f_X1_goodsIn x1 pS) (f_X1_carrierOf x1 pS) (f_X6_zoneNow (f_X1_carrierOf x1 pS) pS bZ bQ) (f_X2_kilosOf (f_X1_goodsIn x1 pS) rK) rL rG bA bB bP ∧ True)) else (if (f_X1_claimedOf x1 pS) ≤ 0 then (k_X6_zoneNow (f_X1_carrierOf x1 pS) pS bZ bQ ∧ (k_X2_chargeOf (f_X1_goodsIn x1 pS) (f_X1_carrierOf x1 pS) (f_X6_zoneNow (f_X1_carrierOf x1 pS) pS bZ bQ) (f_X2_kilosOf (f_X1_goodsIn x1 pS) rK) rL rG bA bB bP ∧ True)) else (k_X6_zoneNow (f_X1_carrierOf x1 pS) pS bZ bQ ∧ (k_X2_chargeOf (f_X1_goodsIn x1 pS) (f_X1_carrierOf x1 pS) (f_X6_zoneNow (f_X1_carrierOf x1 pS) pS bZ bQ) (f_X1_claimedOf x1 pS) rL rG bA bB bP ∧ True))))))
theorem hd_X6_parcelCharge : yX6_parcelCharge.cls ≠ "java/lang/invoke/MethodHandle" ∧ yX6_parcelCharge.cls ≠ "java/lang/invoke/VarHandle" ∧ (parseMethodDescriptor yX6_parcelCharge.desc).map (fun d => d.parameters.length) = some 2 := by decide +kernel
set_option maxHeartbeats 4000000 in
set_option maxRecDepth 100000 in
theorem c_X6_parcelCharge (l : Launch) (G : BGT) (q_x q_t q_b q_d q_e q_r q_s q_p q_bA q_bB q_bZ q_bG q_bP q_bQ q_rK q_rL q_rG q_pS q_pE : Nat) (xF : Int32) (bC : Int32) (bM : Int32) (bL : Int32) (bD : Int32) (bA : Nat → Int32) (bB : Nat → Int32) (bZ : Nat → Int32) (bP : Nat → Int32) (bQ : Nat → Int32) (rK : Nat → Int32) (rL : Nat → Int32) (rG : Nat → Int32) (pN : Int32) (pK : Int32) (pS : Nat → Int32) (x1 : Int32) (x2 : Int32) (hk : k_X6_parcelCharge x1 x2 rK rL rG pS bA bB bZ bP bQ) : RO l yX6_parcelCharge wsX6_parcelCharge 4 G [oX6 q_x q_t q_b q_d q_e q_r q_s q_p xF, oX0 q_b q_bA q_bB q_bZ q_bG q_bP q_bQ bC bM bL bD, aI G q_bA 18 bA, aI G q_bB 60 bB, aI G q_bZ 45 bZ, aI G q_bP 3 bP, aI G q_bQ 3 bQ, oX2 q_r q_b q_rK q_rL q_rG, aI G q_rK 256 rK, aI G q_rL 256 rL, aI G q_rG 3 rG, oX1 q_p q_pS q_pE pN pK, aI G q_pS 26 pS] [.ref q_x, .int x1, .int x2] (some (.int (f_X6_parcelCharge x1 x2 rK rL rG pS bA bB bZ bP bQ))) := by
  refine RO.ofW (cc := cX6_parcelCharge) (maxL := 7) (ret := (some .int)) (C := RX6) (by decide) rfl rfl (Nat.le_of_ble_eq_true rfl) ?_
  intro p e s m args below meth c Q ls hx hb hml hts hown hP hB hl fi fl fv
  have hS : va_S (fun _ => False) s.heap s.heap [] := va_S.rf
  have hl : lv_has ls 7 [(0, .ref q_x), (1, .int x1), (2, .int x2)] := hl
  have t_0 := hts (.fieldLink RX6 56 "ParcelSplit" "plan" "LParcelSplit$Plan;") (by decide +kernel)
  have t_1 := hts (.fieldLink RX6 40 "ParcelSplit" "prices" "LParcelSplit$Prices;") (by decide +kernel)
  have i_X6 : ∀ w ∈ wsX60, w ∈ wsX6_parcelCharge := by decide +kernel
  rw [k_X6_parcelCharge] at hk
  refine lv_aload_n hx hb dX6_parcelCharge_0 rfl (lv_at hl 0 rfl) ?_
  refine va_get (D := gD G) (ci := 6) (v := .ref q_p) (C := RX6) (T := TX6) (N := 8) hx hb hts i_X6 hown hB.1 hP 0 rfl rfl 6 (by decide) t_0 (fun _ h9 => h9) rfl dX6_parcelCharge_1 ?_
  refine lv_iload_n hx hb dX6_parcelCharge_4 rfl (lv_at hl 1 rfl) ?_
  obtain ⟨o_1, hk⟩ := hk
  refine ro_V (ci := 1) (q0 := 11) (As := [.int x1]) (rest := []) (c_X1_goodsIn l G q_p q_pS q_pE pN pK pS x1 o_1) [11, 12] rfl rfl rfl rfl gX6_parcelCharge_X1_goodsIn ⟨_, rfl⟩ hd_X1_goodsIn rfl dX6_parcelCharge_5 rfl rfl (Nat.le_of_ble_eq_true rfl) ⟨Nat.le_of_ble_eq_true rfl, Nat.le_of_ble_eq_true rfl⟩ ⟨Nat.le_refl 0, Nat.le_refl 0⟩ hx hb hml hown hts hB hS hP hl.1 ?_
  refine W.eq (g2 := F0 m 8 ls [.int (f_X1_goodsIn x1 pS)]) rfl ?_
  refine lv_istore_n (lv' := [(3, .int (f_X1_goodsIn x1 pS)), (0, .ref q_x), (1, .int x1), (2, .int x2)]) hx hb dX6_parcelCharge_8 rfl hl (by decide) rfl (fun ls hl => ?_)
  refine lv_iload_n hx hb dX6_parcelCharge_9 rfl (lv_at hl 0 rfl) ?_
  refine lv_if_ne (tgt := 15) hx hb dX6_parcelCharge_10 (by decide) (fun c_2 => ?_) (fun c_2 => ?_)
  · rw [if_neg c_2] at hk
    refine lv_aload_n hx hb dX6_parcelCharge_15 rfl (lv_at hl 1 rfl) ?_
    refine va_get (D := gD G) (ci := 6) (v := .ref q_p) (C := RX6) (T := TX6) (N := 8) hx hb hts i_X6 hown hB.1 hP 0 rfl rfl 6 (by decide) t_0 (fun _ h9 => h9) rfl dX6_parcelCharge_16 ?_
    refine lv_iload_n hx hb dX6_parcelCharge_19 rfl (lv_at hl 2 rfl) ?_
    refine ro_V (ci := 1) (q0 := 11) (As := [.int x1]) (rest := []) (c_X1_claimedOf l G q_p q_pS q_pE pN pK pS x1) [11, 12] rfl rfl rfl rfl gX6_parcelCharge_X1_claimedOf ⟨_, rfl⟩ hd_X1_claimedOf rfl dX6_parcelCharge_20 rfl rfl (Nat.le_of_ble_eq_true rfl) ⟨Nat.le_of_ble_eq_true rfl, Nat.le_of_ble_eq_true rfl⟩ ⟨Nat.le_refl 0, Nat.le_refl 0⟩ hx hb hml hown hts hB hS hP hl.1 ?_
    refine W.eq (g2 := F0 m 23 ls [.int (f_X1_claimedOf x1 pS)]) rfl ?_
    refine lv_istore (lv' := [(4, .int (f_X1_claimedOf x1 pS)), (3, .int (f_X1_goodsIn x1 pS)), (0, .ref q_x), (1, .int x1), (2, .int x2)]) hx hb dX6_parcelCharge_23 hl (by decide) rfl (fun ls hl => ?_)
    refine lv_iload_n hx hb dX6_parcelCharge_25 rfl (lv_at hl 4 rfl) ?_
    refine lv_if_eq (tgt := 39) hx hb dX6_parcelCharge_26 (by decide) (fun c_3 => ?_) (fun c_3 => ?_)
    · rw [if_pos c_3] at hk
      refine lv_aload_n hx hb dX6_parcelCharge_39 rfl (lv_at hl 2 rfl) ?_
      refine va_get (D := gD G) (ci := 6) (v := .ref q_r) (C := RX6) (T := TX6) (N := 8) hx hb hts i_X6 hown hB.1 hP 0 rfl rfl 4 (by decide) t_1 (fun _ h9 => h9) rfl dX6_parcelCharge_40 ?_
      refine lv_iload_n hx hb dX6_parcelCharge_43 rfl (lv_at hl 1 rfl) ?_
      refine ro_V (ci := 2) (q0 := 7) (As := [.int (f_X1_goodsIn x1 pS)]) (rest := []) (c_X2_kilosOf l G q_r q_b q_rK q_rL q_rG rK (f_X1_goodsIn x1 pS)) [7, 8] rfl rfl rfl rfl gX6_parcelCharge_X2_kilosOf ⟨_, rfl⟩ hd_X2_kilosOf rfl dX6_parcelCharge_44 rfl rfl (Nat.le_of_ble_eq_true rfl) ⟨Nat.le_of_ble_eq_true rfl, Nat.le_of_ble_eq_true rfl⟩ ⟨Nat.le_refl 0, Nat.le_refl 0⟩ hx hb hml hown hts hB hS hP hl.1 ?_
      refine W.eq (g2 := F0 m 47 ls [.int (f_X2_kilosOf (f_X1_goodsIn x1 pS) rK)]) rfl ?_
      refine lv_istore (lv' := [(5, .int (f_X2_kilosOf (f_X1_goodsIn x1 pS) rK)), (4, .int (f_X1_claimedOf x1 pS)), (3, .int (f_X1_goodsIn x1 pS)), (0, .ref q_x), (1, .int x1), (2, .int x2)]) hx hb dX6_parcelCharge_47 hl (by decide) rfl (fun ls hl => ?_)
      refine lv_aload_n hx hb dX6_parcelCharge_49 rfl (lv_at hl 3 rfl) ?_
      refine va_get (D := gD G) (ci := 6) (v := .ref q_p) (C := RX6) (T := TX6) (N := 8) hx hb hts i_X6 hown hB.1 hP 0 rfl rfl 6 (by decide) t_0 (fun _ h9 => h9) rfl dX6_parcelCharge_50 ?_
      refine lv_iload_n hx hb dX6_parcelCharge_53 rfl (lv_at hl 4 rfl) ?_
      refine ro_V (ci := 1) (q0 := 11) (As := [.int x1]) (rest := []) (c_X1_carrierOf l G q_p q_pS q_pE pN pK pS x1) [11, 12] rfl rfl rfl rfl gX6_parcelCharge_X1_carrierOf ⟨_, rfl⟩ hd_X1_carrierOf rfl dX6_parcelCharge_54 rfl rfl (Nat.le_of_ble_eq_true rfl) ⟨Nat.le_of_ble_eq_true rfl, Nat.le_of_ble_eq_true rfl⟩ ⟨Nat.le_refl 0, Nat.le_refl 0⟩ hx hb hml hown hts hB hS hP hl.1 ?_
      refine W.eq (g2 := F0 m 57 ls [.int (f_X1_carrierOf x1 pS)]) rfl ?_
      refine lv_istore (lv' := [(6, .int (f_X1_carrierOf x1 pS)), (5, .int (f_X2_kilosOf (f_X1_goodsIn x1 pS) rK)), (4, .int (f_X1_claimedOf x1 pS)), (3, .int (f_X1_goodsIn x1 pS)), (0, .ref q_x), (1, .int x1), (2, .int x2)]) hx hb dX6_parcelCharge_57 hl (by decide) rfl (fun ls hl => ?_)
      refine lv_aload_n hx hb dX6_parcelCharge_59 rfl (lv_at hl 4 rfl) ?_
      refine va_get (D := gD G) (ci := 6) (v := .ref q_r) (C := RX6) (T := TX6) (N := 8) hx hb hts i_X6 hown hB.1 hP 0 rfl rfl 4 (by decide) t_1 (fun _ h9 => h9) rfl dX6_parcelCharge_60 ?_
      refine lv_iload_n hx hb dX6_parcelCharge_63 rfl (lv_at hl 3 rfl) ?_
      refine lv_iload hx hb dX6_parcelCharge_64 (lv_at hl 0 rfl) ?_
      refine lv_aload_n hx hb dX6_parcelCharge_66 rfl (lv_at hl 4 rfl) ?_
      refine lv_iload hx hb dX6_parcelCharge_67 (lv_at hl 0 rfl) ?_
      obtain ⟨o_4, hk⟩ := hk
      refine ro_V (ci := 6) (q0 := 0) (As := [.int (f_X1_carrierOf x1 pS)]) (rest := [.int (f_X1_carrierOf x1 pS), .int (f_X1_goodsIn x1 pS), .ref q_r]) (c_X6_zoneNow l G q_x q_t q_b q_d q_e q_r q_s q_p q_bA q_bB q_bZ q_bG q_bP q_bQ q_rK q_rL q_rG q_pS q_pE xF bC bM bL bD bZ bQ pN pK pS (f_X1_carrierOf x1 pS) o_4) [0, 1, 4, 6, 7, 11, 12] rfl rfl rfl rfl gX6_parcelCharge_X6_zoneNow ⟨_, rfl⟩ hd_X6_zoneNow rfl dX6_parcelCharge_69 rfl rfl (Nat.le_of_ble_eq_true rfl) ⟨Nat.le_of_ble_eq_true rfl, Nat.le_of_ble_eq_true rfl⟩ ⟨Nat.le_refl 0, Nat.le_refl 0⟩ hx hb hml hown hts hB hS hP hl.1 ?_
      refine W.eq (g2 := F0 m 72 ls [.int (f_X6_zoneNow (f_X1_carrierOf x1 pS) pS bZ bQ), .int (f_X1_carrierOf x1 pS), .int (f_X1_goodsIn x1 pS), .ref q_r]) rfl ?_
      refine lv_iload hx hb dX6_parcelCharge_72 (lv_at hl 1 rfl) ?_
      obtain ⟨o_5, hk⟩ := hk
      refine ro_V (ci := 2) (q0 := 7) (As := [.int (f_X1_goodsIn x1 pS), .int (f_X1_carrierOf x1 pS), .int (f_X6_zoneNow (f_X1_carrierOf x1 pS) pS bZ bQ), .int (f_X2_kilosOf (f_X1_goodsIn x1 pS) rK)]) (rest := []) (c_X2_chargeOf l G q_b q_bA q_bB q_bZ q_bG q_bP q_bQ q_r q_rK q_rL q_rG bC bM bL bD bA bB bP rL rG (f_X1_goodsIn x1 pS) (f_X1_carrierOf x1 pS) (f_X6_zoneNow (f_X1_carrierOf x1 pS) pS bZ bQ) (f_X2_kilosOf (f_X1_goodsIn x1 pS) rK) o_5) [1, 2, 3, 5, 7, 9, 10] rfl rfl rfl rfl gX6_parcelCharge_X2_chargeOf ⟨_, rfl⟩ hd_X2_chargeOf rfl dX6_parcelCharge_74 rfl rfl (Nat.le_of_ble_eq_true rfl) ⟨Nat.le_of_ble_eq_true rfl, Nat.le_of_ble_eq_true rfl⟩ ⟨Nat.le_refl 0, Nat.le_refl 0⟩ hx hb hml hown hts hB hS hP hl.1 ?_
      refine W.eq (g2 := F0 m 77 ls [.int (f_X2_chargeOf (f_X1_goodsIn x1 pS) (f_X1_carrierOf x1 pS) (f_X6_zoneNow (f_X1_carrierOf x1 pS) pS bZ bQ) (f_X2_kilosOf (f_X1_goodsIn x1 pS) rK) rL rG bA bB bP)]) rfl ?_
      exact fi 77 _ (f_X2_chargeOf (f_X1_goodsIn x1 pS) (f_X1_carrierOf x1 pS) (f_X6_zoneNow (f_X1_carrierOf x1 pS) pS bZ bQ) (f_X2_kilosOf (f_X1_goodsIn x1 pS) rK) rL rG bA bB bP) .int rfl rfl dX6_parcelCharge_77 (by rw [f_X6_parcelCharge, if_neg c_2, if_pos c_3])
    · rw [if_neg c_3] at hk
      refine lv_iload hx hb dX6_parcelCharge_29 (lv_at hl 0 rfl) ?_
      refine lv_if_le (tgt := 39) hx hb dX6_parcelCharge_31 (by decide) (fun c_6 => ?_) (fun c_6 => ?_)
      · rw [if_pos c_6] at hk
        refine lv_aload_n hx hb dX6_parcelCharge_39 rfl (lv_at hl 2 rfl) ?_
        refine va_get (D := gD G) (ci := 6) (v := .ref q_r) (C := RX6) (T := TX6) (N := 8) hx hb hts i_X6 hown hB.1 hP 0 rfl rfl 4 (by decide) t_1 (fun _ h9 => h9) rfl dX6_parcelCharge_40 ?_
        refine lv_iload_n hx hb dX6_parcelCharge_43 rfl (lv_at hl 1 rfl) ?_
        refine ro_V (ci := 2) (q0 := 7) (As := [.int (f_X1_goodsIn x1 pS)]) (rest := []) (c_X2_kilosOf l G q_r q_b q_rK q_rL q_rG rK (f_X1_goodsIn x1 pS)) [7, 8] rfl rfl rfl rfl gX6_parcelCharge_X2_kilosOf ⟨_, rfl⟩ hd_X2_kilosOf rfl dX6_parcelCharge_44 rfl rfl (Nat.le_of_ble_eq_true rfl) ⟨Nat.le_of_ble_eq_true rfl, Nat.le_of_ble_eq_true rfl⟩ ⟨Nat.le_refl 0, Nat.le_refl 0⟩ hx hb hml hown hts hB hS hP hl.1 ?_
        refine W.eq (g2 := F0 m 47 ls [.int (f_X2_kilosOf (f_X1_goodsIn x1 pS) rK)]) rfl ?_
        refine lv_istore (lv' := [(5, .int (f_X2_kilosOf (f_X1_goodsIn x1 pS) rK)), (4, .int (f_X1_claimedOf x1 pS)), (3, .int (f_X1_goodsIn x1 pS)), (0, .ref q_x), (1, .int x1), (2, .int x2)]) hx hb dX6_parcelCharge_47 hl (by decide) rfl (fun ls hl => ?_)
        refine lv_aload_n hx hb dX6_parcelCharge_49 rfl (lv_at hl 3 rfl) ?_
        refine va_get (D := gD G) (ci := 6) (v := .ref q_p) (C := RX6) (T := TX6) (N := 8) hx hb hts i_X6 hown hB.1 hP 0 rfl rfl 6 (by decide) t_0 (fun _ h9 => h9) rfl dX6_parcelCharge_50 ?_
        refine lv_iload_n hx hb dX6_parcelCharge_53 rfl (lv_at hl 4 rfl) ?_
        refine ro_V (ci := 1) (q0 := 11) (As := [.int x1]) (rest := []) (c_X1_carrierOf l G q_p q_pS q_pE pN pK pS x1) [11, 12] rfl rfl rfl rfl gX6_parcelCharge_X1_carrierOf ⟨_, rfl⟩ hd_X1_carrierOf rfl dX6_parcelCharge_54 rfl rfl (Nat.le_of_ble_eq_true rfl) ⟨Nat.le_of_ble_eq_true rfl, Nat.le_of_ble_eq_true rfl⟩ ⟨Nat.le_refl 0, Nat.le_refl 0⟩ hx hb hml hown hts hB hS hP hl.1 ?_
        refine W.eq (g2 := F0 m 57 ls [.int (f_X1_carrierOf x1 pS)]) rfl ?_
        refine lv_istore (lv' := [(6, .int (f_X1_carrierOf x1 pS)), (5, .int (f_X2_kilosOf (f_X1_goodsIn x1 pS) rK)), (4, .int (f_X1_claimedOf x1 pS)), (3, .int (f_X1_goodsIn x1 pS)), (0, .ref q_x), (1, .int x1), (2, .int x2)]) hx hb dX6_parcelCharge_57 hl (by decide) rfl (fun ls hl => ?_)
        refine lv_aload_n hx hb dX6_parcelCharge_59 rfl (lv_at hl 4 rfl) ?_
        refine va_get (D := gD G) (ci := 6) (v := .ref q_r) (C := RX6) (T := TX6) (N := 8) hx hb hts i_X6 hown hB.1 hP 0 rfl rfl 4 (by decide) t_1 (fun _ h9 => h9) rfl dX6_parcelCharge_60 ?_
        refine lv_iload_n hx hb dX6_parcelCharge_63 rfl (lv_at hl 3 rfl) ?_
        refine lv_iload hx hb dX6_parcelCharge_64 (lv_at hl 0 rfl) ?_
        refine lv_aload_n hx hb dX6_parcelCharge_66 rfl (lv_at hl 4 rfl) ?_
        refine lv_iload hx hb dX6_parcelCharge_67 (lv_at hl 0 rfl) ?_
        obtain ⟨o_7, hk⟩ := hk
        refine ro_V (ci := 6) (q0 := 0) (As := [.int (f_X1_carrierOf x1 pS)]) (rest := [.int (f_X1_carrierOf x1 pS), .int (f_X1_goodsIn x1 pS), .ref q_r]) (c_X6_zoneNow l G q_x q_t q_b q_d q_e q_r q_s q_p q_bA q_bB q_bZ q_bG q_bP q_bQ q_rK q_rL q_rG q_pS q_pE xF bC bM bL bD bZ bQ pN pK pS (f_X1_carrierOf x1 pS) o_7) [0, 1, 4, 6, 7, 11, 12] rfl rfl rfl rfl gX6_parcelCharge_X6_zoneNow ⟨_, rfl⟩ hd_X6_zoneNow rfl dX6_parcelCharge_69 rfl rfl (Nat.le_of_ble_eq_true rfl) ⟨Nat.le_of_ble_eq_true rfl, Nat.le_of_ble_eq_true rfl⟩ ⟨Nat.le_refl 0, Nat.le_refl 0⟩ hx hb hml hown hts hB hS hP hl.1 ?_
        refine W.eq (g2 := F0 m 72 ls [.int (f_X6_zoneNow (f_X1_carrierOf x1 pS) pS bZ bQ), .int (f_X1_carrierOf x1 pS), .int (f_X1_goodsIn x1 pS), .ref q_r]) rfl ?_
        refine lv_iload hx hb dX6_parcelCharge_72 (lv_at hl 1 rfl) ?_
        obtain ⟨o_8, hk⟩ := hk
        refine ro_V (ci := 2) (q0 := 7) (As := [.int (f_X1_goodsIn x1 pS), .int (f_X1_carrierOf x1 pS), .int (f_X6_zoneNow (f_X1_carrierOf x1 pS) pS bZ bQ), .int (f_X2_kilosOf (f_X1_goodsIn x1 pS) rK)]) (rest := []) (c_X2_chargeOf l G q_b q_bA q_bB q_bZ q_bG q_bP q_bQ q_r q_rK q_rL q_rG bC bM bL bD bA bB bP rL rG (f_X1_goodsIn x1 pS) (f_X1_carrierOf x1 pS) (f_X6_zoneNow (f_X1_carrierOf x1 pS) pS bZ bQ) (f_X2_kilosOf (f_X1_goodsIn x1 pS) rK) o_8) [1, 2, 3, 5, 7, 9, 10] rfl rfl rfl rfl gX6_parcelCharge_X2_chargeOf ⟨_, rfl⟩ hd_X2_chargeOf rfl dX6_parcelCharge_74 rfl rfl (Nat.le_of_ble_eq_true rfl) ⟨Nat.le_of_ble_eq_true rfl, Nat.le_of_ble_eq_true rfl⟩ ⟨Nat.le_refl 0, Nat.le_refl 0⟩ hx hb hml hown hts hB hS hP hl.1 ?_
        refine W.eq (g2 := F0 m 77 ls [.int (f_X2_chargeOf (f_X1_goodsIn x1 pS) (f_X1_carrierOf x1 pS) (f_X6_zoneNow (f_X1_carrierOf x1 pS) pS bZ bQ) (f_X2_kilosOf (f_X1_goodsIn x1 pS) rK) rL rG bA bB bP)]) rfl ?_
        exact fi 77 _ (f_X2_chargeOf (f_X1_goodsIn x1 pS) (f_X1_carrierOf x1 pS) (f_X6_zoneNow (f_X1_carrierOf x1 pS) pS bZ bQ) (f_X2_kilosOf (f_X1_goodsIn x1 pS) rK) rL rG bA bB bP) .int rfl rfl dX6_parcelCharge_77 (by rw [f_X6_parcelCharge, if_neg c_2, if_neg c_3, if_pos c_6])
      · rw [if_neg c_6] at hk
        refine lv_iload hx hb dX6_parcelCharge_34 (lv_at hl 0 rfl) ?_
        refine lv_goto (tgt := 47) hx hb dX6_parcelCharge_36 (by decide) ?_
        refine lv_istore (lv' := [(5, .int (f_X1_claimedOf x1 pS)), (4, .int (f_X1_claimedOf x1 pS)), (3, .int (f_X1_goodsIn x1 pS)), (0, .ref q_x), (1, .int x1), (2, .int x2)]) hx hb dX6_parcelCharge_47 hl (by decide) rfl (fun ls hl => ?_)
        refine lv_aload_n hx hb dX6_parcelCharge_49 rfl (lv_at hl 3 rfl) ?_
        refine va_get (D := gD G) (ci := 6) (v := .ref q_p) (C := RX6) (T := TX6) (N := 8) hx hb hts i_X6 hown hB.1 hP 0 rfl rfl 6 (by decide) t_0 (fun _ h9 => h9) rfl dX6_parcelCharge_50 ?_
        refine lv_iload_n hx hb dX6_parcelCharge_53 rfl (lv_at hl 4 rfl) ?_
        refine ro_V (ci := 1) (q0 := 11) (As := [.int x1]) (rest := []) (c_X1_carrierOf l G q_p q_pS q_pE pN pK pS x1) [11, 12] rfl rfl rfl rfl gX6_parcelCharge_X1_carrierOf ⟨_, rfl⟩ hd_X1_carrierOf rfl dX6_parcelCharge_54 rfl rfl (Nat.le_of_ble_eq_true rfl) ⟨Nat.le_of_ble_eq_true rfl, Nat.le_of_ble_eq_true rfl⟩ ⟨Nat.le_refl 0, Nat.le_refl 0⟩ hx hb hml hown hts hB hS hP hl.1 ?_
        refine W.eq (g2 := F0 m 57 ls [.int (f_X1_carrierOf x1 pS)]) rfl ?_
        refine lv_istore (lv' := [(6, .int (f_X1_carrierOf x1 pS)), (5, .int (f_X1_claimedOf x1 pS)), (4, .int (f_X1_claimedOf x1 pS)), (3, .int (f_X1_goodsIn x1 pS)), (0, .ref q_x), (1, .int x1), (2, .int x2)]) hx hb dX6_parcelCharge_57 hl (by decide) rfl (fun ls hl => ?_)
        refine lv_aload_n hx hb dX6_parcelCharge_59 rfl (lv_at hl 4 rfl) ?_
        refine va_get (D := gD G) (ci := 6) (v := .ref q_r) (C := RX6) (T := TX6) (N := 8) hx hb hts i_X6 hown hB.1 hP 0 rfl rfl 4 (by decide) t_1 (fun _ h9 => h9) rfl dX6_parcelCharge_60 ?_
        refine lv_iload_n hx hb dX6_parcelCharge_63 rfl (lv_at hl 3 rfl) ?_
        refine lv_iload hx hb dX6_parcelCharge_64 (lv_at hl 0 rfl) ?_
        refine lv_aload_n hx hb dX6_parcelCharge_66 rfl (lv_at hl 4 rfl) ?_
        refine lv_iload hx hb dX6_parcelCharge_67 (lv_at hl 0 rfl) ?_
        obtain ⟨o_9, hk⟩ := hk
        refine ro_V (ci := 6) (q0 := 0) (As := [.int (f_X1_carrierOf x1 pS)]) (rest := [.int (f_X1_carrierOf x1 pS), .int (f_X1_goodsIn x1 pS), .ref q_r]) (c_X6_zoneNow l G q_x q_t q_b q_d q_e q_r q_s q_p q_bA q_bB q_bZ q_bG q_bP q_bQ q_rK q_rL q_rG q_pS q_pE xF bC bM bL bD bZ bQ pN pK pS (f_X1_carrierOf x1 pS) o_9) [0, 1, 4, 6, 7, 11, 12] rfl rfl rfl rfl gX6_parcelCharge_X6_zoneNow ⟨_, rfl⟩ hd_X6_zoneNow rfl dX6_parcelCharge_69 rfl rfl (Nat.le_of_ble_eq_true rfl) ⟨Nat.le_of_ble_eq_true rfl, Nat.le_of_ble_eq_true rfl⟩ ⟨Nat.le_refl 0, Nat.le_refl 0⟩ hx hb hml hown hts hB hS hP hl.1 ?_
        refine W.eq (g2 := F0 m 72 ls [.int (f_X6_zoneNow (f_X1_carrierOf x1 pS) pS bZ bQ), .int (f_X1_carrierOf x1 pS), .int (f_X1_goodsIn x1 pS), .ref q_r]) rfl ?_
        refine lv_iload hx hb dX6_parcelCharge_72 (lv_at hl 1 rfl) ?_
        obtain ⟨o_10, hk⟩ := hk
        refine ro_V (ci := 2) (q0 := 7) (As := [.int (f_X1_goodsIn x1 pS), .int (f_X1_carrierOf x1 pS), .int (f_X6_zoneNow (f_X1_carrierOf x1 pS) pS bZ bQ), .int (f_X1_claimedOf x1 pS)]) (rest := []) (c_X2_chargeOf l G q_b q_bA q_bB q_bZ q_bG q_bP q_bQ q_r q_rK q_rL q_rG bC bM bL bD bA bB bP rL rG (f_X1_goodsIn x1 pS) (f_X1_carrierOf x1 pS) (f_X6_zoneNow (f_X1_carrierOf x1 pS) pS bZ bQ) (f_X1_claimedOf x1 pS) o_10) [1, 2, 3, 5, 7, 9, 10] rfl rfl rfl rfl gX6_parcelCharge_X2_chargeOf ⟨_, rfl⟩ hd_X2_chargeOf rfl dX6_parcelCharge_74 rfl rfl (Nat.le_of_ble_eq_true rfl) ⟨Nat.le_of_ble_eq_true rfl, Nat.le_of_ble_eq_true rfl⟩ ⟨Nat.le_refl 0, Nat.le_refl 0⟩ hx hb hml hown hts hB hS hP hl.1 ?_
        refine W.eq (g2 := F0 m 77 ls [.int (f_X2_chargeOf (f_X1_goodsIn x1 pS) (f_X1_carrierOf x1 pS) (f_X6_zoneNow (f_X1_carrierOf x1 pS) pS bZ bQ) (f_X1_claimedOf x1 pS) rL rG bA bB bP)]) rfl ?_
        exact fi 77 _ (f_X2_chargeOf (f_X1_goodsIn x1 pS) (f_X1_carrierOf x1 pS) (f_X6_zoneNow (f_X1_carrierOf x1 pS) pS bZ bQ) (f_X1_claimedOf x1 pS) rL rG bA bB bP) .int rfl rfl dX6_parcelCharge_77 (by rw [f_X6_parcelCharge, if_neg c_2, if_neg c_3, if_neg c_6])
  · rw [if_pos c_2] at hk
    refine lv_iconst (v := 0) hx hb dX6_parcelCharge_13 (by decide) ?_
    exact fi 14 _ 0 .int rfl rfl dX6_parcelCharge_14 (by rw [f_X6_parcelCharge, if_pos c_2])

def f_X6_lowerBound_L20 (rK : Nat → Int32) (pS : Nat → Int32) (bB : Nat → Int32) (bZ : Nat → Int32) (bP : Nat → Int32) (bQ : Nat → Int32) (bC : Int32) (bM : Int32) : Nat → Int32 → Int32 → Int32 × Int32
  | 0, v2, v3 => (v2, v3)
  | n + 1, v2, v3 => (if (f_X0_carrierCount bC) ≤ v3 then (v2, v3) else (if (f_X6_zoneNow v3 pS bZ bQ) = 3 then f_X6_lowerBound_L20 rK pS bB bZ bP bQ bC bM n v2 (v3 + 1) else (if v2 < 0 then f_X6_lowerBound_L20 rK pS bB bZ bP bQ bC bM n (f_X2_boundBy v3 (f_X6_zoneNow v3 pS bZ bQ) (f_X2_kilosOf (f_X0_fullSet bM) rK) bB bP) (v3 + 1) else (if v2 ≤ (f_X2_boundBy v3 (f_X6_zoneNow v3 pS bZ bQ) (f_X2_kilosOf (f_X0_fullSet bM) rK) bB bP) then f_X6_lowerBound_L20 rK pS bB bZ bP bQ bC bM n v2 (v3 + 1) else f_X6_lowerBound_L20 rK pS bB bZ bP bQ bC bM n (f_X2_boundBy v3 (f_X6_zoneNow v3 pS bZ bQ) (f_X2_kilosOf (f_X0_fullSet bM) rK) bB bP) (v3 + 1)))))
def k_X6_lowerBound_L20 (rK : Nat → Int32) (pS : Nat → Int32) (bB : Nat → Int32) (bZ : Nat → Int32) (bP : Nat → Int32) (bQ : Nat → Int32) (bC : Int32) (bM : Int32) : Nat → Int32 → Int32 → Prop
  | 0, _, _ => False
  | n + 1, v2, v3 => (if (f_X0_carrierCount bC) ≤ v3 then True else (k_X6_zoneNow v3 pS bZ bQ ∧ (if (f_X6_zoneNow v3 pS bZ bQ) = 3 then k_X6_lowerBound_L20 rK pS bB bZ bP bQ bC bM n v2 (v3 + 1) else (k_X2_boundBy v3 (f_X6_zoneNow v3 pS bZ bQ) (f_X2_kilosOf (f_X0_fullSet bM) rK) bB bP ∧ (if v2 < 0 then k_X6_lowerBound_L20 rK pS bB bZ bP bQ bC bM n (f_X2_boundBy v3 (f_X6_zoneNow v3 pS bZ bQ) (f_X2_kilosOf (f_X0_fullSet bM) rK) bB bP) (v3 + 1) else (if v2 ≤ (f_X2_boundBy v3 (f_X6_zoneNow v3 pS bZ bQ) (f_X2_kilosOf (f_X0_fullSet bM) rK) bB bP) then k_X6_lowerBound_L20 rK pS bB bZ bP bQ bC bM n v2 (v3 + 1) else k_X6_lowerBound_L20 rK pS bB bZ bP bQ bC bM n (f_X2_boundBy v3 (f_X6_zoneNow v3 pS bZ bQ) (f_X2_kilosOf (f_X0_fullSet bM) rK) bB bP) (v3 + 1)))))))
def f_X6_lowerBound (rK : Nat → Int32) (pS : Nat → Int32) (bB : Nat → Int32) (bZ : Nat → Int32) (bP : Nat → Int32) (bQ : Nat → Int32) (bC : Int32) (bM : Int32) : Int32 := ((f_X6_lowerBound_L20 rK pS bB bZ bP bQ bC bM FU (-2) 0).1)
def k_X6_lowerBound (rK : Nat → Int32) (pS : Nat → Int32) (bB : Nat → Int32) (bZ : Nat → Int32) (bP : Nat → Int32) (bQ : Nat → Int32) (bC : Int32) (bM : Int32) : Prop := (k_X6_lowerBound_L20 rK pS bB bZ bP bQ bC bM FU (-2) 0 ∧ True)
theorem hd_X6_lowerBound : yX6_lowerBound.cls ≠ "java/lang/invoke/MethodHandle" ∧ yX6_lowerBound.cls ≠ "java/lang/invoke/VarHandle" ∧ (parseMethodDescriptor yX6_lowerBound.desc).map (fun d => d.parameters.length) = some 0 := by decide +kernel
set_option maxHeartbeats 4000000 in
set_option maxRecDepth 100000 in
theorem c_X6_lowerBound (l : Launch) (G : BGT) (q_x q_t q_b q_d q_e q_r q_s q_p q_bA q_bB q_bZ q_bG q_bP q_bQ q_rK q_rL q_rG q_pS q_pE : Nat) (xF : Int32) (bC : Int32) (bM : Int32) (bL : Int32) (bD : Int32) (bB : Nat → Int32) (bZ : Nat → Int32) (bP : Nat → Int32) (bQ : Nat → Int32) (rK : Nat → Int32) (pN : Int32) (pK : Int32) (pS : Nat → Int32) (hk : k_X6_lowerBound rK pS bB bZ bP bQ bC bM) : RO l yX6_lowerBound wsX6_lowerBound 4 G [oX6 q_x q_t q_b q_d q_e q_r q_s q_p xF, oX0 q_b q_bA q_bB q_bZ q_bG q_bP q_bQ bC bM bL bD, aI G q_bB 60 bB, aI G q_bZ 45 bZ, aI G q_bP 3 bP, aI G q_bQ 3 bQ, oX2 q_r q_b q_rK q_rL q_rG, aI G q_rK 256 rK, oX1 q_p q_pS q_pE pN pK, aI G q_pS 26 pS] [.ref q_x] (some (.int (f_X6_lowerBound rK pS bB bZ bP bQ bC bM))) := by
  refine RO.ofW (cc := cX6_lowerBound) (maxL := 6) (ret := (some .int)) (C := RX6) (by decide) rfl rfl (Nat.le_of_ble_eq_true rfl) ?_
  intro p e s m args below meth c Q ls hx hb hml hts hown hP hB hl fi fl fv
  have hS : va_S (fun _ => False) s.heap s.heap [] := va_S.rf
  have hl : lv_has ls 6 [(0, .ref q_x)] := hl
  have t_0 := hts (.fieldLink RX6 40 "ParcelSplit" "prices" "LParcelSplit$Prices;") (by decide +kernel)
  have t_1 := hts (.fieldLink RX6 19 "ParcelSplit" "book" "LParcelSplit$Book;") (by decide +kernel)
  have i_X6 : ∀ w ∈ wsX60, w ∈ wsX6_lowerBound := by decide +kernel
  rw [k_X6_lowerBound] at hk
  refine lv_aload_n hx hb dX6_lowerBound_0 rfl (lv_at hl 0 rfl) ?_
  refine va_get (D := gD G) (ci := 6) (v := .ref q_r) (C := RX6) (T := TX6) (N := 8) hx hb hts i_X6 hown hB.1 hP 0 rfl rfl 4 (by decide) t_0 (fun _ h9 => h9) rfl dX6_lowerBound_1 ?_
  refine lv_aload_n hx hb dX6_lowerBound_4 rfl (lv_at hl 0 rfl) ?_
  refine va_get (D := gD G) (ci := 6) (v := .ref q_b) (C := RX6) (T := TX6) (N := 8) hx hb hts i_X6 hown hB.1 hP 0 rfl rfl 1 (by decide) t_1 (fun _ h9 => h9) rfl dX6_lowerBound_5 ?_
  refine ro_V (ci := 0) (q0 := 1) (As := []) (rest := [.ref q_r]) (c_X0_fullSet l G q_b q_bA q_bB q_bZ q_bG q_bP q_bQ bC bM bL bD) [1] rfl rfl rfl rfl gX6_lowerBound_X0_fullSet ⟨_, rfl⟩ hd_X0_fullSet rfl dX6_lowerBound_8 rfl rfl (Nat.le_of_ble_eq_true rfl) ⟨Nat.le_of_ble_eq_true rfl, Nat.le_of_ble_eq_true rfl⟩ ⟨Nat.le_refl 0, Nat.le_refl 0⟩ hx hb hml hown hts hB hS hP hl.1 ?_
  refine W.eq (g2 := F0 m 11 ls [.int (f_X0_fullSet bM), .ref q_r]) rfl ?_
  refine ro_V (ci := 2) (q0 := 6) (As := [.int (f_X0_fullSet bM)]) (rest := []) (c_X2_kilosOf l G q_r q_b q_rK q_rL q_rG rK (f_X0_fullSet bM)) [6, 7] rfl rfl rfl rfl gX6_lowerBound_X2_kilosOf ⟨_, rfl⟩ hd_X2_kilosOf rfl dX6_lowerBound_11 rfl rfl (Nat.le_of_ble_eq_true rfl) ⟨Nat.le_of_ble_eq_true rfl, Nat.le_of_ble_eq_true rfl⟩ ⟨Nat.le_refl 0, Nat.le_refl 0⟩ hx hb hml hown hts hB hS hP hl.1 ?_
  refine W.eq (g2 := F0 m 14 ls [.int (f_X2_kilosOf (f_X0_fullSet bM) rK)]) rfl ?_
  refine lv_istore_n (lv' := [(1, .int (f_X2_kilosOf (f_X0_fullSet bM) rK)), (0, .ref q_x)]) hx hb dX6_lowerBound_14 rfl hl (by decide) rfl (fun ls hl => ?_)
  refine lv_bipush (v := (-2)) hx hb dX6_lowerBound_15 (by decide) ?_
  refine lv_istore_n (lv' := [(2, .int (-2)), (1, .int (f_X2_kilosOf (f_X0_fullSet bM) rK)), (0, .ref q_x)]) hx hb dX6_lowerBound_17 rfl hl (by decide) rfl (fun ls hl => ?_)
  refine lv_iconst (v := 0) hx hb dX6_lowerBound_18 (by decide) ?_
  refine lv_istore_n (lv' := [(3, .int 0), (2, .int (-2)), (1, .int (f_X2_kilosOf (f_X0_fullSet bM) rK)), (0, .ref q_x)]) hx hb dX6_lowerBound_19 rfl hl (by decide) rfl (fun ls hl => ?_)
  have L20 : ∀ (n : Nat) (v2 : Int32) (v3 : Int32), k_X6_lowerBound_L20 rK pS bB bZ bP bQ bC bM n v2 v3 → ∀ (ls : Array Slot), lv_has ls 6 [(0, .ref q_x), (1, .int (f_X2_kilosOf (f_X0_fullSet bM) rK)), (2, .int v2), (3, .int v3)] → (∀ (ls : Array Slot), lv_has ls 6 [(0, .ref q_x), (1, .int (f_X2_kilosOf (f_X0_fullSet bM) rK)), (2, .int ((f_X6_lowerBound_L20 rK pS bB bZ bP bQ bC bM n v2 v3).1)), (3, .int ((f_X6_lowerBound_L20 rK pS bB bZ bP bQ bC bM n v2 v3).2))] → W p l e (rm 4) s m args below meth c s.heap [] 0 0 Q (F0 m 80 ls [])) → W p l e (rm 4) s m args below meth c s.heap [] 0 0 Q (F0 m 20 ls []) := by
    intro n
    induction n with
    | zero => intro v2 v3 hk; exact (hk : False).elim
    | succ n ih =>
      intro v2 v3 hk ls hl kk
      rw [k_X6_lowerBound_L20] at hk
      refine lv_iload_n hx hb dX6_lowerBound_20 rfl (lv_at hl 3 rfl) ?_
      refine lv_aload_n hx hb dX6_lowerBound_21 rfl (lv_at hl 0 rfl) ?_
      refine va_get (D := gD G) (ci := 6) (v := .ref q_b) (C := RX6) (T := TX6) (N := 8) hx hb hts i_X6 hown hB.1 hP 0 rfl rfl 1 (by decide) t_1 (fun _ h9 => h9) rfl dX6_lowerBound_22 ?_
      refine ro_V (ci := 0) (q0 := 1) (As := []) (rest := [.int v3]) (c_X0_carrierCount l G q_b q_bA q_bB q_bZ q_bG q_bP q_bQ bC bM bL bD) [1] rfl rfl rfl rfl gX6_lowerBound_X0_carrierCount ⟨_, rfl⟩ hd_X0_carrierCount rfl dX6_lowerBound_25 rfl rfl (Nat.le_of_ble_eq_true rfl) ⟨Nat.le_of_ble_eq_true rfl, Nat.le_of_ble_eq_true rfl⟩ ⟨Nat.le_refl 0, Nat.le_refl 0⟩ hx hb hml hown hts hB hS hP hl.1 ?_
      refine W.eq (g2 := F0 m 28 ls [.int (f_X0_carrierCount bC), .int v3]) rfl ?_
      refine lv_icmp_ge (tgt := 80) hx hb dX6_lowerBound_28 (by decide) (fun c_1 => ?_) (fun c_1 => ?_)
      · rw [if_pos c_1] at hk
        have e9 : f_X6_lowerBound_L20 rK pS bB bZ bP bQ bC bM (n + 1) v2 v3 = (v2, v3) := by rw [f_X6_lowerBound_L20, if_pos c_1]
        rw [e9] at kk
        exact kk ls (lv_sub hl [0, 1, 2, 3] rfl)
      · rw [if_neg c_1] at hk
        refine lv_aload_n hx hb dX6_lowerBound_31 rfl (lv_at hl 0 rfl) ?_
        refine lv_iload_n hx hb dX6_lowerBound_32 rfl (lv_at hl 3 rfl) ?_
        obtain ⟨o_2, hk⟩ := hk
        refine ro_V (ci := 6) (q0 := 0) (As := [.int v3]) (rest := []) (c_X6_zoneNow l G q_x q_t q_b q_d q_e q_r q_s q_p q_bA q_bB q_bZ q_bG q_bP q_bQ q_rK q_rL q_rG q_pS q_pE xF bC bM bL bD bZ bQ pN pK pS v3 o_2) [0, 1, 3, 5, 6, 8, 9] rfl rfl rfl rfl gX6_lowerBound_X6_zoneNow ⟨_, rfl⟩ hd_X6_zoneNow rfl dX6_lowerBound_33 rfl rfl (Nat.le_of_ble_eq_true rfl) ⟨Nat.le_of_ble_eq_true rfl, Nat.le_of_ble_eq_true rfl⟩ ⟨Nat.le_refl 0, Nat.le_refl 0⟩ hx hb hml hown hts hB hS hP hl.1 ?_
        refine W.eq (g2 := F0 m 36 ls [.int (f_X6_zoneNow v3 pS bZ bQ)]) rfl ?_
        refine lv_istore (lv' := [(4, .int (f_X6_zoneNow v3 pS bZ bQ)), (0, .ref q_x), (1, .int (f_X2_kilosOf (f_X0_fullSet bM) rK)), (2, .int v2), (3, .int v3)]) hx hb dX6_lowerBound_36 hl (by decide) rfl (fun ls hl => ?_)
        refine lv_iload hx hb dX6_lowerBound_38 (lv_at hl 0 rfl) ?_
        refine lv_iconst (v := 3) hx hb dX6_lowerBound_40 (by decide) ?_
        refine lv_icmp_eq (tgt := 74) hx hb dX6_lowerBound_41 (by decide) (fun c_3 => ?_) (fun c_3 => ?_)
        · rw [if_pos c_3] at hk
          refine lv_iinc (v := (v3 + 1)) (lv' := [(3, .int (v3 + 1)), (4, .int (f_X6_zoneNow v3 pS bZ bQ)), (0, .ref q_x), (1, .int (f_X2_kilosOf (f_X0_fullSet bM) rK)), (2, .int v2)]) hx hb dX6_lowerBound_74 hl (k := 4) rfl (by rfl) (by decide) rfl (fun ls hl => ?_)
          refine lv_goto (tgt := 20) hx hb dX6_lowerBound_77 (by decide) ?_
          have e9 : f_X6_lowerBound_L20 rK pS bB bZ bP bQ bC bM (n + 1) v2 v3 = f_X6_lowerBound_L20 rK pS bB bZ bP bQ bC bM n v2 (v3 + 1) := by rw [f_X6_lowerBound_L20, if_neg c_1, if_pos c_3]
          rw [e9] at kk
          exact ih v2 (v3 + 1) hk ls (lv_sub hl [2, 3, 4, 0] rfl) kk
        · rw [if_neg c_3] at hk
          refine lv_aload_n hx hb dX6_lowerBound_44 rfl (lv_at hl 1 rfl) ?_
          refine va_get (D := gD G) (ci := 6) (v := .ref q_r) (C := RX6) (T := TX6) (N := 8) hx hb hts i_X6 hown hB.1 hP 0 rfl rfl 4 (by decide) t_0 (fun _ h9 => h9) rfl dX6_lowerBound_45 ?_
          refine lv_iload_n hx hb dX6_lowerBound_48 rfl (lv_at hl 4 rfl) ?_
          refine lv_iload hx hb dX6_lowerBound_49 (lv_at hl 0 rfl) ?_
          refine lv_iload_n hx hb dX6_lowerBound_51 rfl (lv_at hl 2 rfl) ?_
          obtain ⟨o_4, hk⟩ := hk
          refine ro_V (ci := 2) (q0 := 6) (As := [.int v3, .int (f_X6_zoneNow v3 pS bZ bQ), .int (f_X2_kilosOf (f_X0_fullSet bM) rK)]) (rest := []) (c_X2_boundBy l G q_b q_bA q_bB q_bZ q_bG q_bP q_bQ q_r q_rK q_rL q_rG bC bM bL bD bB bP v3 (f_X6_zoneNow v3 pS bZ bQ) (f_X2_kilosOf (f_X0_fullSet bM) rK) o_4) [1, 2, 4, 6] rfl rfl rfl rfl gX6_lowerBound_X2_boundBy ⟨_, rfl⟩ hd_X2_boundBy rfl dX6_lowerBound_52 rfl rfl (Nat.le_of_ble_eq_true rfl) ⟨Nat.le_of_ble_eq_true rfl, Nat.le_of_ble_eq_true rfl⟩ ⟨Nat.le_refl 0, Nat.le_refl 0⟩ hx hb hml hown hts hB hS hP hl.1 ?_
          refine W.eq (g2 := F0 m 55 ls [.int (f_X2_boundBy v3 (f_X6_zoneNow v3 pS bZ bQ) (f_X2_kilosOf (f_X0_fullSet bM) rK) bB bP)]) rfl ?_
          refine lv_istore (lv' := [(5, .int (f_X2_boundBy v3 (f_X6_zoneNow v3 pS bZ bQ) (f_X2_kilosOf (f_X0_fullSet bM) rK) bB bP)), (4, .int (f_X6_zoneNow v3 pS bZ bQ)), (0, .ref q_x), (1, .int (f_X2_kilosOf (f_X0_fullSet bM) rK)), (2, .int v2), (3, .int v3)]) hx hb dX6_lowerBound_55 hl (by decide) rfl (fun ls hl => ?_)
          refine lv_iload_n hx hb dX6_lowerBound_57 rfl (lv_at hl 4 rfl) ?_
          refine lv_if_lt (tgt := 67) hx hb dX6_lowerBound_58 (by decide) (fun c_5 => ?_) (fun c_5 => ?_)
          · rw [if_pos c_5] at hk
            refine lv_iload hx hb dX6_lowerBound_67 (lv_at hl 0 rfl) ?_
            refine lv_goto (tgt := 73) hx hb dX6_lowerBound_69 (by decide) ?_
            refine lv_istore_n (lv' := [(2, .int (f_X2_boundBy v3 (f_X6_zoneNow v3 pS bZ bQ) (f_X2_kilosOf (f_X0_fullSet bM) rK) bB bP)), (5, .int (f_X2_boundBy v3 (f_X6_zoneNow v3 pS bZ bQ) (f_X2_kilosOf (f_X0_fullSet bM) rK) bB bP)), (4, .int (f_X6_zoneNow v3 pS bZ bQ)), (0, .ref q_x), (1, .int (f_X2_kilosOf (f_X0_fullSet bM) rK)), (3, .int v3)]) hx hb dX6_lowerBound_73 rfl hl (by decide) rfl (fun ls hl => ?_)
            refine lv_iinc (v := (v3 + 1)) (lv' := [(3, .int (v3 + 1)), (2, .int (f_X2_boundBy v3 (f_X6_zoneNow v3 pS bZ bQ) (f_X2_kilosOf (f_X0_fullSet bM) rK) bB bP)), (5, .int (f_X2_boundBy v3 (f_X6_zoneNow v3 pS bZ bQ) (f_X2_kilosOf (f_X0_fullSet bM) rK) bB bP)), (4, .int (f_X6_zoneNow v3 pS bZ bQ)), (0, .ref q_x), (1, .int (f_X2_kilosOf (f_X0_fullSet bM) rK))]) hx hb dX6_lowerBound_74 hl (k := 5) rfl (by rfl) (by decide) rfl (fun ls hl => ?_)
            refine lv_goto (tgt := 20) hx hb dX6_lowerBound_77 (by decide) ?_
            have e9 : f_X6_lowerBound_L20 rK pS bB bZ bP bQ bC bM (n + 1) v2 v3 = f_X6_lowerBound_L20 rK pS bB bZ bP bQ bC bM n (f_X2_boundBy v3 (f_X6_zoneNow v3 pS bZ bQ) (f_X2_kilosOf (f_X0_fullSet bM) rK) bB bP) (v3 + 1) := by rw [f_X6_lowerBound_L20, if_neg c_1, if_neg c_3, if_pos c_5]
            rw [e9] at kk
            exact ih (f_X2_boundBy v3 (f_X6_zoneNow v3 pS bZ bQ) (f_X2_kilosOf (f_X0_fullSet bM) rK) bB bP) (v3 + 1) hk ls (lv_sub hl [4, 5, 1, 0] rfl) kk
          · rw [if_neg c_5] at hk
            refine lv_iload hx hb dX6_lowerBound_61 (lv_at hl 0 rfl) ?_
            refine lv_iload_n hx hb dX6_lowerBound_63 rfl (lv_at hl 4 rfl) ?_
            refine lv_icmp_ge (tgt := 72) hx hb dX6_lowerBound_64 (by decide) (fun c_6 => ?_) (fun c_6 => ?_)
            · rw [if_pos c_6] at hk
              refine lv_iload_n hx hb dX6_lowerBound_72 rfl (lv_at hl 4 rfl) ?_
              refine lv_istore_n (lv' := [(2, .int v2), (5, .int (f_X2_boundBy v3 (f_X6_zoneNow v3 pS bZ bQ) (f_X2_kilosOf (f_X0_fullSet bM) rK) bB bP)), (4, .int (f_X6_zoneNow v3 pS bZ bQ)), (0, .ref q_x), (1, .int (f_X2_kilosOf (f_X0_fullSet bM) rK)), (3, .int v3)]) hx hb dX6_lowerBound_73 rfl hl (by decide) rfl (fun ls hl => ?_)
              refine lv_iinc (v := (v3 + 1)) (lv' := [(3, .int (v3 + 1)), (2, .int v2), (5, .int (f_X2_boundBy v3 (f_X6_zoneNow v3 pS bZ bQ) (f_X2_kilosOf (f_X0_fullSet bM) rK) bB bP)), (4, .int (f_X6_zoneNow v3 pS bZ bQ)), (0, .ref q_x), (1, .int (f_X2_kilosOf (f_X0_fullSet bM) rK))]) hx hb dX6_lowerBound_74 hl (k := 5) rfl (by rfl) (by decide) rfl (fun ls hl => ?_)
              refine lv_goto (tgt := 20) hx hb dX6_lowerBound_77 (by decide) ?_
              have e9 : f_X6_lowerBound_L20 rK pS bB bZ bP bQ bC bM (n + 1) v2 v3 = f_X6_lowerBound_L20 rK pS bB bZ bP bQ bC bM n v2 (v3 + 1) := by rw [f_X6_lowerBound_L20, if_neg c_1, if_neg c_3, if_neg c_5, if_pos c_6]
              rw [e9] at kk
              exact ih v2 (v3 + 1) hk ls (lv_sub hl [4, 5, 1, 0] rfl) kk
            · rw [if_neg c_6] at hk
              refine lv_iload hx hb dX6_lowerBound_67 (lv_at hl 0 rfl) ?_
              refine lv_goto (tgt := 73) hx hb dX6_lowerBound_69 (by decide) ?_
              refine lv_istore_n (lv' := [(2, .int (f_X2_boundBy v3 (f_X6_zoneNow v3 pS bZ bQ) (f_X2_kilosOf (f_X0_fullSet bM) rK) bB bP)), (5, .int (f_X2_boundBy v3 (f_X6_zoneNow v3 pS bZ bQ) (f_X2_kilosOf (f_X0_fullSet bM) rK) bB bP)), (4, .int (f_X6_zoneNow v3 pS bZ bQ)), (0, .ref q_x), (1, .int (f_X2_kilosOf (f_X0_fullSet bM) rK)), (3, .int v3)]) hx hb dX6_lowerBound_73 rfl hl (by decide) rfl (fun ls hl => ?_)
              refine lv_iinc (v := (v3 + 1)) (lv' := [(3, .int (v3 + 1)), (2, .int (f_X2_boundBy v3 (f_X6_zoneNow v3 pS bZ bQ) (f_X2_kilosOf (f_X0_fullSet bM) rK) bB bP)), (5, .int (f_X2_boundBy v3 (f_X6_zoneNow v3 pS bZ bQ) (f_X2_kilosOf (f_X0_fullSet bM) rK) bB bP)), (4, .int (f_X6_zoneNow v3 pS bZ bQ)), (0, .ref q_x), (1, .int (f_X2_kilosOf (f_X0_fullSet bM) rK))]) hx hb dX6_lowerBound_74 hl (k := 5) rfl (by rfl) (by decide) rfl (fun ls hl => ?_)
              refine lv_goto (tgt := 20) hx hb dX6_lowerBound_77 (by decide) ?_
              have e9 : f_X6_lowerBound_L20 rK pS bB bZ bP bQ bC bM (n + 1) v2 v3 = f_X6_lowerBound_L20 rK pS bB bZ bP bQ bC bM n (f_X2_boundBy v3 (f_X6_zoneNow v3 pS bZ bQ) (f_X2_kilosOf (f_X0_fullSet bM) rK) bB bP) (v3 + 1) := by rw [f_X6_lowerBound_L20, if_neg c_1, if_neg c_3, if_neg c_5, if_neg c_6]
              rw [e9] at kk
              exact ih (f_X2_boundBy v3 (f_X6_zoneNow v3 pS bZ bQ) (f_X2_kilosOf (f_X0_fullSet bM) rK) bB bP) (v3 + 1) hk ls (lv_sub hl [4, 5, 1, 0] rfl) kk
  obtain ⟨hkL, hk⟩ := hk
  refine L20 FU (-2) 0 hkL ls (lv_sub hl [3, 2, 1, 0] rfl) (fun ls hl => ?_)
  refine lv_iload_n hx hb dX6_lowerBound_80 rfl (lv_at hl 2 rfl) ?_
  exact fi 81 _ ((f_X6_lowerBound_L20 rK pS bB bZ bP bQ bC bM FU (-2) 0).1) .int rfl rfl dX6_lowerBound_81 (by rw [f_X6_lowerBound])

def f_X6_beginAnew (rK : Nat → Int32) (rL : Nat → Int32) (rG : Nat → Int32) (sZ : Nat → Int32) (pS : Nat → Int32) (bA : Nat → Int32) (bG : Nat → Int32) (bC : Int32) (bM : Int32) (bL : Int32) (bD : Int32) : (Nat → Int32) × (Nat → Int32) × (Nat → Int32) × (Nat → Int32) × (Nat → Int32) × Int32 × Int32 := (((f_X2_learn rK rL rG bA bG bC bM).1), ((f_X2_learn rK rL rG bA bG bC bM).2.1), ((f_X2_learn rK rL rG bA bG bC bM).2.2), f_X4_forget sZ, ((f_X1_begin (f_X0_place bL) (f_X0_day bD) pS).1), ((f_X1_begin (f_X0_place bL) (f_X0_day bD) pS).2.1), ((f_X1_begin (f_X0_place bL) (f_X0_day bD) pS).2.2))
def k_X6_beginAnew (rK : Nat → Int32) (rL : Nat → Int32) (rG : Nat → Int32) (sZ : Nat → Int32) (pS : Nat → Int32) (bA : Nat → Int32) (bG : Nat → Int32) (bC : Int32) (bM : Int32) : Prop := (k_X2_learn rK rL rG bA bG bC bM ∧ (k_X4_forget sZ ∧ (k_X1_begin pS ∧ True)))
theorem hd_X6_beginAnew : yX6_beginAnew.cls ≠ "java/lang/invoke/MethodHandle" ∧ yX6_beginAnew.cls ≠ "java/lang/invoke/VarHandle" ∧ (parseMethodDescriptor yX6_beginAnew.desc).map (fun d => d.parameters.length) = some 0 := by decide +kernel
set_option maxHeartbeats 4000000 in
set_option maxRecDepth 100000 in
theorem c_X6_beginAnew (l : Launch) (G : BGT) (q_x q_t q_b q_d q_e q_r q_s q_p q_bA q_bB q_bZ q_bG q_bP q_bQ q_rK q_rL q_rG q_sZ q_sR q_sO q_sL q_sW q_sU q_pS q_pE : Nat) (xF : Int32) (bC : Int32) (bM : Int32) (bL : Int32) (bD : Int32) (bA : Nat → Int32) (bG : Nat → Int32) (rK : Nat → Int32) (rL : Nat → Int32) (rG : Nat → Int32) (sZ : Nat → Int32) (pN : Int32) (pK : Int32) (pS : Nat → Int32) (hk : k_X6_beginAnew rK rL rG sZ pS bA bG bC bM) : WR l yX6_beginAnew wsX6_beginAnew 4 G [oX6 q_x q_t q_b q_d q_e q_r q_s q_p xF, oX0 q_b q_bA q_bB q_bZ q_bG q_bP q_bQ bC bM bL bD, aI G q_bA 18 bA, aI G q_bG 24 bG, oX2 q_r q_b q_rK q_rL q_rG, aI G q_rK 256 rK, aI G q_rL 256 rL, aI G q_rG 3 rG, oX4 q_s q_b q_r q_sZ q_sR q_sO q_sL q_sW q_sU, aI G q_sZ 64 sZ, oX1 q_p q_pS q_pE pN pK, aI G q_pS 26 pS] [oX6 q_x q_t q_b q_d q_e q_r q_s q_p xF, oX0 q_b q_bA q_bB q_bZ q_bG q_bP q_bQ bC bM bL bD, aI G q_bA 18 bA, aI G q_bG 24 bG, oX2 q_r q_b q_rK q_rL q_rG, aI G q_rK 256 ((f_X6_beginAnew rK rL rG sZ pS bA bG bC bM bL bD).1), aI G q_rL 256 ((f_X6_beginAnew rK rL rG sZ pS bA bG bC bM bL bD).2.1), aI G q_rG 3 ((f_X6_beginAnew rK rL rG sZ pS bA bG bC bM bL bD).2.2.1), oX4 q_s q_b q_r q_sZ q_sR q_sO q_sL q_sW q_sU, aI G q_sZ 64 ((f_X6_beginAnew rK rL rG sZ pS bA bG bC bM bL bD).2.2.2.1), oX1 q_p q_pS q_pE ((f_X6_beginAnew rK rL rG sZ pS bA bG bC bM bL bD).2.2.2.2.2.1) ((f_X6_beginAnew rK rL rG sZ pS bA bG bC bM bL bD).2.2.2.2.2.2), aI G q_pS 26 ((f_X6_beginAnew rK rL rG sZ pS bA bG bC bM bL bD).2.2.2.2.1)] [.ref q_x] none := by
  refine WR.ofW (cc := cX6_beginAnew) (maxL := 1) (ret := none) (C := RX6) (by decide) rfl rfl (Nat.le_of_ble_eq_true rfl) ?_
  intro p e s m args below meth c Q ls A hx hb hml hts hown hP hD hS hA hB hl fi fv
  have hl : lv_has ls 1 [(0, .ref q_x)] := hl
  have t_0 := hts (.fieldLink RX6 40 "ParcelSplit" "prices" "LParcelSplit$Prices;") (by decide +kernel)
  have t_1 := hts (.fieldLink RX6 49 "ParcelSplit" "splitter" "LParcelSplit$Splitter;") (by decide +kernel)
  have t_2 := hts (.fieldLink RX6 56 "ParcelSplit" "plan" "LParcelSplit$Plan;") (by decide +kernel)
  have t_3 := hts (.fieldLink RX6 19 "ParcelSplit" "book" "LParcelSplit$Book;") (by decide +kernel)
  have i_X6 : ∀ w ∈ wsX60, w ∈ wsX6_beginAnew := by decide +kernel
  rw [k_X6_beginAnew] at hk
  refine lv_aload_n hx hb dX6_beginAnew_0 rfl (lv_at hl 0 rfl) ?_
  refine va_get (D := gD G) (ci := 6) (v := .ref q_r) (C := RX6) (T := TX6) (N := 8) hx hb hts i_X6 hown hB.1 hP 0 rfl rfl 4 (by decide) t_0 (fun _ h9 => h9) rfl dX6_beginAnew_1 ?_
  obtain ⟨o_1, hk⟩ := hk
  refine wr_V (ci := 2) (q0 := 4) (As := []) (rest := []) (wr := [oX6 q_x q_t q_b q_d q_e q_r q_s q_p xF, oX4 q_s q_b q_r q_sZ q_sR q_sO q_sL q_sW q_sU, aI G q_sZ 64 sZ, oX1 q_p q_pS q_pE pN pK, aI G q_pS 26 pS]) (wf := [oX6 q_x q_t q_b q_d q_e q_r q_s q_p xF, oX0 q_b q_bA q_bB q_bZ q_bG q_bP q_bQ bC bM bL bD, aI G q_bA 18 bA, aI G q_bG 24 bG, oX2 q_r q_b q_rK q_rL q_rG, aI G q_rK 256 ((f_X2_learn rK rL rG bA bG bC bM).1), aI G q_rL 256 ((f_X2_learn rK rL rG bA bG bC bM).2.1), aI G q_rG 3 ((f_X2_learn rK rL rG bA bG bC bM).2.2), oX4 q_s q_b q_r q_sZ q_sR q_sO q_sL q_sW q_sU, aI G q_sZ 64 sZ, oX1 q_p q_pS q_pE pN pK, aI G q_pS 26 pS]) (c_X2_learn l G q_b q_bA q_bB q_bZ q_bG q_bP q_bQ q_r q_rK q_rL q_rG bC bM bL bD bA bG rK rL rG o_1) [1, 2, 3, 4, 5, 6, 7] [0, 8, 9, 10, 11] [0, 5, 6, 7, 8, 9, 10, 11, 1, 2, 3, 4] rfl rfl rfl (by decide) rfl rfl rfl gX6_beginAnew_X2_learn ⟨_, rfl⟩ hd_X2_learn rfl dX6_beginAnew_4 rfl rfl (Nat.le_of_ble_eq_true rfl) ⟨Nat.le_of_ble_eq_true rfl, Nat.le_of_ble_eq_true rfl⟩ ⟨Nat.le_refl 0, Nat.le_refl 0⟩ hx hb hml hown hts hB hD hS hA hP hl.1 (fun H locs hP hD hS => ?_)
  refine W.eq (g2 := F0 m 7 ls []) rfl ?_
  refine lv_aload_n hx hb dX6_beginAnew_7 rfl (lv_at hl 0 rfl) ?_
  refine va_get (D := gD G) (ci := 6) (v := .ref q_s) (C := RX6) (T := TX6) (N := 8) hx hb hts i_X6 hown hB.1 hP 0 rfl rfl 5 (by decide) t_1 (fun _ h9 => h9) rfl dX6_beginAnew_8 ?_
  obtain ⟨o_2, hk⟩ := hk
  refine wr_V (ci := 4) (q0 := 8) (As := []) (rest := []) (wr := [oX6 q_x q_t q_b q_d q_e q_r q_s q_p xF, oX0 q_b q_bA q_bB q_bZ q_bG q_bP q_bQ bC bM bL bD, aI G q_bA 18 bA, aI G q_bG 24 bG, oX2 q_r q_b q_rK q_rL q_rG, aI G q_rK 256 ((f_X2_learn rK rL rG bA bG bC bM).1), aI G q_rL 256 ((f_X2_learn rK rL rG bA bG bC bM).2.1), aI G q_rG 3 ((f_X2_learn rK rL rG bA bG bC bM).2.2), oX1 q_p q_pS q_pE pN pK, aI G q_pS 26 pS]) (wf := [oX6 q_x q_t q_b q_d q_e q_r q_s q_p xF, oX0 q_b q_bA q_bB q_bZ q_bG q_bP q_bQ bC bM bL bD, aI G q_bA 18 bA, aI G q_bG 24 bG, oX2 q_r q_b q_rK q_rL q_rG, aI G q_rK 256 ((f_X2_learn rK rL rG bA bG bC bM).1), aI G q_rL 256 ((f_X2_learn rK rL rG bA bG bC bM).2.1), aI G q_rG 3 ((f_X2_learn rK rL rG bA bG bC bM).2.2), oX4 q_s q_b q_r q_sZ q_sR q_sO q_sL q_sW q_sU, aI G q_sZ 64 (f_X4_forget sZ), oX1 q_p q_pS q_pE pN pK, aI G q_pS 26 pS]) (c_X4_forget l G q_s q_b q_r q_sZ q_sR q_sO q_sL q_sW q_sU sZ o_2) [8, 9] [0, 1, 2, 3, 4, 5, 6, 7, 10, 11] [0, 1, 2, 3, 4, 5, 6, 7, 10, 11, 8, 9] rfl rfl rfl (by decide) rfl rfl rfl gX6_beginAnew_X4_forget ⟨_, rfl⟩ hd_X4_forget rfl dX6_beginAnew_11 rfl rfl (Nat.le_of_ble_eq_true rfl) ⟨Nat.le_of_ble_eq_true rfl, Nat.le_of_ble_eq_true rfl⟩ ⟨Nat.le_refl 0, Nat.le_refl 0⟩ hx hb hml hown hts hB hD hS hA hP hl.1 (fun H locs hP hD hS => ?_)
  refine W.eq (g2 := F0 m 14 ls []) rfl ?_
  refine lv_aload_n hx hb dX6_beginAnew_14 rfl (lv_at hl 0 rfl) ?_
  refine va_get (D := gD G) (ci := 6) (v := .ref q_p) (C := RX6) (T := TX6) (N := 8) hx hb hts i_X6 hown hB.1 hP 0 rfl rfl 6 (by decide) t_2 (fun _ h9 => h9) rfl dX6_beginAnew_15 ?_
  refine lv_aload_n hx hb dX6_beginAnew_18 rfl (lv_at hl 0 rfl) ?_
  refine va_get (D := gD G) (ci := 6) (v := .ref q_b) (C := RX6) (T := TX6) (N := 8) hx hb hts i_X6 hown hB.1 hP 0 rfl rfl 1 (by decide) t_3 (fun _ h9 => h9) rfl dX6_beginAnew_19 ?_
  refine ro_V (ci := 0) (q0 := 1) (As := []) (rest := [.ref q_p]) (c_X0_place l G q_b q_bA q_bB q_bZ q_bG q_bP q_bQ bC bM bL bD) [1] rfl rfl rfl rfl gX6_beginAnew_X0_place ⟨_, rfl⟩ hd_X0_place rfl dX6_beginAnew_22 rfl rfl (Nat.le_of_ble_eq_true rfl) ⟨Nat.le_of_ble_eq_true rfl, Nat.le_of_ble_eq_true rfl⟩ ⟨Nat.le_refl 0, Nat.le_refl 0⟩ hx hb hml hown hts hB hS hP hl.1 ?_
  refine W.eq (g2 := F0 m 25 ls [.int (f_X0_place bL), .ref q_p]) rfl ?_
  refine lv_aload_n hx hb dX6_beginAnew_25 rfl (lv_at hl 0 rfl) ?_
  refine va_get (D := gD G) (ci := 6) (v := .ref q_b) (C := RX6) (T := TX6) (N := 8) hx hb hts i_X6 hown hB.1 hP 0 rfl rfl 1 (by decide) t_3 (fun _ h9 => h9) rfl dX6_beginAnew_26 ?_
  refine ro_V (ci := 0) (q0 := 1) (As := []) (rest := [.int (f_X0_place bL), .ref q_p]) (c_X0_day l G q_b q_bA q_bB q_bZ q_bG q_bP q_bQ bC bM bL bD) [1] rfl rfl rfl rfl gX6_beginAnew_X0_day ⟨_, rfl⟩ hd_X0_day rfl dX6_beginAnew_29 rfl rfl (Nat.le_of_ble_eq_true rfl) ⟨Nat.le_of_ble_eq_true rfl, Nat.le_of_ble_eq_true rfl⟩ ⟨Nat.le_refl 0, Nat.le_refl 0⟩ hx hb hml hown hts hB hS hP hl.1 ?_
  refine W.eq (g2 := F0 m 32 ls [.int (f_X0_day bD), .int (f_X0_place bL), .ref q_p]) rfl ?_
  obtain ⟨o_3, hk⟩ := hk
  refine wr_V (ci := 1) (q0 := 10) (As := [.int (f_X0_place bL), .int (f_X0_day bD)]) (rest := []) (wr := [oX6 q_x q_t q_b q_d q_e q_r q_s q_p xF, oX0 q_b q_bA q_bB q_bZ q_bG q_bP q_bQ bC bM bL bD, aI G q_bA 18 bA, aI G q_bG 24 bG, oX2 q_r q_b q_rK q_rL q_rG, aI G q_rK 256 ((f_X2_learn rK rL rG bA bG bC bM).1), aI G q_rL 256 ((f_X2_learn rK rL rG bA bG bC bM).2.1), aI G q_rG 3 ((f_X2_learn rK rL rG bA bG bC bM).2.2), oX4 q_s q_b q_r q_sZ q_sR q_sO q_sL q_sW q_sU, aI G q_sZ 64 (f_X4_forget sZ)]) (wf := [oX6 q_x q_t q_b q_d q_e q_r q_s q_p xF, oX0 q_b q_bA q_bB q_bZ q_bG q_bP q_bQ bC bM bL bD, aI G q_bA 18 bA, aI G q_bG 24 bG, oX2 q_r q_b q_rK q_rL q_rG, aI G q_rK 256 ((f_X2_learn rK rL rG bA bG bC bM).1), aI G q_rL 256 ((f_X2_learn rK rL rG bA bG bC bM).2.1), aI G q_rG 3 ((f_X2_learn rK rL rG bA bG bC bM).2.2), oX4 q_s q_b q_r q_sZ q_sR q_sO q_sL q_sW q_sU, aI G q_sZ 64 (f_X4_forget sZ), oX1 q_p q_pS q_pE ((f_X1_begin (f_X0_place bL) (f_X0_day bD) pS).2.1) ((f_X1_begin (f_X0_place bL) (f_X0_day bD) pS).2.2), aI G q_pS 26 ((f_X1_begin (f_X0_place bL) (f_X0_day bD) pS).1)]) (c_X1_begin l G q_p q_pS q_pE pN pK pS (f_X0_place bL) (f_X0_day bD) o_3) [10, 11] [0, 1, 2, 3, 4, 5, 6, 7, 8, 9] [0, 1, 2, 3, 4, 5, 6, 7, 8, 9, 10, 11] rfl rfl rfl (by decide) rfl rfl rfl gX6_beginAnew_X1_begin ⟨_, rfl⟩ hd_X1_begin rfl dX6_beginAnew_32 rfl rfl (Nat.le_of_ble_eq_true rfl) ⟨Nat.le_of_ble_eq_true rfl, Nat.le_of_ble_eq_true rfl⟩ ⟨Nat.le_refl 0, Nat.le_refl 0⟩ hx hb hml hown hts hB hD hS hA hP hl.1 (fun H locs hP hD hS => ?_)
  refine W.eq (g2 := F0 m 35 ls []) rfl ?_
  have e9 : f_X6_beginAnew rK rL rG sZ pS bA bG bC bM bL bD = (((f_X2_learn rK rL rG bA bG bC bM).1), ((f_X2_learn rK rL rG bA bG bC bM).2.1), ((f_X2_learn rK rL rG bA bG bC bM).2.2), f_X4_forget sZ, ((f_X1_begin (f_X0_place bL) (f_X0_day bD) pS).1), ((f_X1_begin (f_X0_place bL) (f_X0_day bD) pS).2.1), ((f_X1_begin (f_X0_place bL) (f_X0_day bD) pS).2.2)) := by rw [f_X6_beginAnew]
  exact fv 35 _ _ _ rfl dX6_beginAnew_35 rfl (by rw [e9]; exact hP) (by rw [e9]; exact hD) hS

def f_X6_feed_L36 (x4 : Int32) (x5 : Int32) (w_tB : Nat → Int32) (w_tN : Int32) : Int32 × (Nat → Int32) × Int32 := ((f_X5_size ((f_X5_append x5 ((f_X5_append x4 w_tB w_tN).1) ((f_X5_append x4 w_tB w_tN).2)).2)), ((f_X5_append x5 ((f_X5_append x4 w_tB w_tN).1) ((f_X5_append x4 w_tB w_tN).2)).1), ((f_X5_append x5 ((f_X5_append x4 w_tB w_tN).1) ((f_X5_append x4 w_tB w_tN).2)).2))
def k_X6_feed_L36 (x4 : Int32) (x5 : Int32) (w_tB : Nat → Int32) (w_tN : Int32) : Prop := (k_X5_append x4 w_tB w_tN ∧ (k_X5_append x5 ((f_X5_append x4 w_tB w_tN).1) ((f_X5_append x4 w_tB w_tN).2) ∧ True))
def f_X6_feed (x1 : Int32) (x2 : Int32) (x3 : Int32) (x4 : Int32) (x5 : Int32) (tB : Nat → Int32) (tN : Int32) : Int32 × (Nat → Int32) × Int32 := (if (f_X5_hasRoomForFive tN) = 0 then ((-1), tB, tN) else f_X6_feed_L36 x4 x5 ((f_X5_append x3 ((f_X5_append x2 ((f_X5_append x1 tB tN).1) ((f_X5_append x1 tB tN).2)).1) ((f_X5_append x2 ((f_X5_append x1 tB tN).1) ((f_X5_append x1 tB tN).2)).2)).1) ((f_X5_append x3 ((f_X5_append x2 ((f_X5_append x1 tB tN).1) ((f_X5_append x1 tB tN).2)).1) ((f_X5_append x2 ((f_X5_append x1 tB tN).1) ((f_X5_append x1 tB tN).2)).2)).2))
def k_X6_feed (x1 : Int32) (x2 : Int32) (x3 : Int32) (x4 : Int32) (x5 : Int32) (tB : Nat → Int32) (tN : Int32) : Prop := (if (f_X5_hasRoomForFive tN) = 0 then True else (k_X5_append x1 tB tN ∧ (k_X5_append x2 ((f_X5_append x1 tB tN).1) ((f_X5_append x1 tB tN).2) ∧ (k_X5_append x3 ((f_X5_append x2 ((f_X5_append x1 tB tN).1) ((f_X5_append x1 tB tN).2)).1) ((f_X5_append x2 ((f_X5_append x1 tB tN).1) ((f_X5_append x1 tB tN).2)).2) ∧ k_X6_feed_L36 x4 x5 ((f_X5_append x3 ((f_X5_append x2 ((f_X5_append x1 tB tN).1) ((f_X5_append x1 tB tN).2)).1) ((f_X5_append x2 ((f_X5_append x1 tB tN).1) ((f_X5_append x1 tB tN).2)).2)).1) ((f_X5_append x3 ((f_X5_append x2 ((f_X5_append x1 tB tN).1) ((f_X5_append x1 tB tN).2)).1) ((f_X5_append x2 ((f_X5_append x1 tB tN).1) ((f_X5_append x1 tB tN).2)).2)).2)))))
theorem hd_X6_feed : yX6_feed.cls ≠ "java/lang/invoke/MethodHandle" ∧ yX6_feed.cls ≠ "java/lang/invoke/VarHandle" ∧ (parseMethodDescriptor yX6_feed.desc).map (fun d => d.parameters.length) = some 5 := by decide +kernel
set_option maxHeartbeats 4000000 in
set_option maxRecDepth 100000 in
theorem c_X6_feed (l : Launch) (G : BGT) (q_x q_t q_b q_d q_e q_r q_s q_p q_tB : Nat) (xF : Int32) (tN : Int32) (tB : Nat → Int32) (x1 : Int32) (x2 : Int32) (x3 : Int32) (x4 : Int32) (x5 : Int32) (hk : k_X6_feed x1 x2 x3 x4 x5 tB tN) : WR l yX6_feed wsX6_feed 1 G [oX6 q_x q_t q_b q_d q_e q_r q_s q_p xF, oX5 q_t q_tB tN, aB G q_tB 740 tB] [oX6 q_x q_t q_b q_d q_e q_r q_s q_p xF, oX5 q_t q_tB ((f_X6_feed x1 x2 x3 x4 x5 tB tN).2.2), aB G q_tB 740 ((f_X6_feed x1 x2 x3 x4 x5 tB tN).2.1)] [.ref q_x, .int x1, .int x2, .int x3, .int x4, .int x5] (some (.int ((f_X6_feed x1 x2 x3 x4 x5 tB tN).1))) := by
  refine WR.ofW (cc := cX6_feed) (maxL := 6) (ret := (some .int)) (C := RX6) (by decide) rfl rfl (Nat.le_of_ble_eq_true rfl) ?_
  intro p e s m args below meth c Q ls A hx hb hml hts hown hP hD hS hA hB hl fi fv
  have hl : lv_has ls 6 [(0, .ref q_x), (1, .int x1), (2, .int x2), (3, .int x3), (4, .int x4), (5, .int x5)] := hl
  have t_0 := hts (.fieldLink RX6 12 "ParcelSplit" "tape" "LParcelSplit$Tape;") (by decide +kernel)
  have i_X6 : ∀ w ∈ wsX60, w ∈ wsX6_feed := by decide +kernel
  have T36 : ∀ (w_tB : Nat → Int32) (w_tN : Int32), k_X6_feed_L36 x4 x5 w_tB w_tN → f_X6_feed x1 x2 x3 x4 x5 tB tN = f_X6_feed_L36 x4 x5 w_tB w_tN → ∀ (H : Heap) (locs : List Loc), va_P (gD G) vwCl [oX6 q_x q_t q_b q_d q_e q_r q_s q_p xF, oX5 q_t q_tB w_tN, aB G q_tB 740 w_tB] H → va_D A [oX6 q_x q_t q_b q_d q_e q_r q_s q_p xF, oX5 q_t q_tB w_tN, aB G q_tB 740 w_tB] → va_S A s.heap H locs → ∀ (ls : Array Slot), lv_has ls 6 [(0, .ref q_x), (4, .int x4), (5, .int x5)] → W p l e (rm 1) s m args below meth c H locs 0 0 Q (F0 m 36 ls []) := by
    intro w_tB w_tN hk hv H locs hP hD hS ls hl
    rw [k_X6_feed_L36] at hk
    refine lv_aload_n hx hb dX6_feed_36 rfl (lv_at hl 0 rfl) ?_
    refine va_get (D := gD G) (ci := 6) (v := .ref q_t) (C := RX6) (T := TX6) (N := 8) hx hb hts i_X6 hown hB.1 hP 0 rfl rfl 0 (by decide) t_0 (fun _ h9 => h9) rfl dX6_feed_37 ?_
    refine lv_iload hx hb dX6_feed_40 (lv_at hl 1 rfl) ?_
    obtain ⟨o_5, hk⟩ := hk
    refine wr_V (ci := 5) (q0 := 1) (As := [.int x4]) (rest := []) (wr := [oX6 q_x q_t q_b q_d q_e q_r q_s q_p xF]) (wf := [oX6 q_x q_t q_b q_d q_e q_r q_s q_p xF, oX5 q_t q_tB ((f_X5_append x4 w_tB w_tN).2), aB G q_tB 740 ((f_X5_append x4 w_tB w_tN).1)]) (c_X5_append l G q_t q_tB w_tN w_tB x4 o_5) [1, 2] [0] [0, 1, 2] rfl rfl rfl (by decide) rfl rfl rfl gX6_feed_X5_append ⟨_, rfl⟩ hd_X5_append rfl dX6_feed_42 rfl rfl (Nat.le_of_ble_eq_true rfl) ⟨Nat.le_of_ble_eq_true rfl, Nat.le_of_ble_eq_true rfl⟩ ⟨Nat.le_refl 0, Nat.le_refl 0⟩ hx hb hml hown hts hB hD hS hA hP hl.1 (fun H locs hP hD hS => ?_)
    refine W.eq (g2 := F0 m 45 ls []) rfl ?_
    refine lv_aload_n hx hb dX6_feed_45 rfl (lv_at hl 0 rfl) ?_
    refine va_get (D := gD G) (ci := 6) (v := .ref q_t) (C := RX6) (T := TX6) (N := 8) hx hb hts i_X6 hown hB.1 hP 0 rfl rfl 0 (by decide) t_0 (fun _ h9 => h9) rfl dX6_feed_46 ?_
    refine lv_iload hx hb dX6_feed_49 (lv_at hl 2 rfl) ?_
    obtain ⟨o_6, hk⟩ := hk
    refine wr_V (ci := 5) (q0 := 1) (As := [.int x5]) (rest := []) (wr := [oX6 q_x q_t q_b q_d q_e q_r q_s q_p xF]) (wf := [oX6 q_x q_t q_b q_d q_e q_r q_s q_p xF, oX5 q_t q_tB ((f_X5_append x5 ((f_X5_append x4 w_tB w_tN).1) ((f_X5_append x4 w_tB w_tN).2)).2), aB G q_tB 740 ((f_X5_append x5 ((f_X5_append x4 w_tB w_tN).1) ((f_X5_append x4 w_tB w_tN).2)).1)]) (c_X5_append l G q_t q_tB ((f_X5_append x4 w_tB w_tN).2) ((f_X5_append x4 w_tB w_tN).1) x5 o_6) [1, 2] [0] [0, 1, 2] rfl rfl rfl (by decide) rfl rfl rfl gX6_feed_X5_append ⟨_, rfl⟩ hd_X5_append rfl dX6_feed_51 rfl rfl (Nat.le_of_ble_eq_true rfl) ⟨Nat.le_of_ble_eq_true rfl, Nat.le_of_ble_eq_true rfl⟩ ⟨Nat.le_refl 0, Nat.le_refl 0⟩ hx hb hml hown hts hB hD hS hA hP hl.1 (fun H locs hP hD hS => ?_)
    refine W.eq (g2 := F0 m 54 ls []) rfl ?_
    refine lv_aload_n hx hb dX6_feed_54 rfl (lv_at hl 0 rfl) ?_
    refine va_get (D := gD G) (ci := 6) (v := .ref q_t) (C := RX6) (T := TX6) (N := 8) hx hb hts i_X6 hown hB.1 hP 0 rfl rfl 0 (by decide) t_0 (fun _ h9 => h9) rfl dX6_feed_55 ?_
    refine ro_V (ci := 5) (q0 := 1) (As := []) (rest := []) (c_X5_size l G q_t q_tB ((f_X5_append x5 ((f_X5_append x4 w_tB w_tN).1) ((f_X5_append x4 w_tB w_tN).2)).2)) [1] rfl rfl rfl rfl gX6_feed_X5_size ⟨_, rfl⟩ hd_X5_size rfl dX6_feed_58 rfl rfl (Nat.le_of_ble_eq_true rfl) ⟨Nat.le_of_ble_eq_true rfl, Nat.le_of_ble_eq_true rfl⟩ ⟨Nat.le_refl 0, Nat.le_refl 0⟩ hx hb hml hown hts hB hS hP hl.1 ?_
    refine W.eq (g2 := F0 m 61 ls [.int (f_X5_size ((f_X5_append x5 ((f_X5_append x4 w_tB w_tN).1) ((f_X5_append x4 w_tB w_tN).2)).2))]) rfl ?_
    have e9 : f_X6_feed x1 x2 x3 x4 x5 tB tN = ((f_X5_size ((f_X5_append x5 ((f_X5_append x4 w_tB w_tN).1) ((f_X5_append x4 w_tB w_tN).2)).2)), ((f_X5_append x5 ((f_X5_append x4 w_tB w_tN).1) ((f_X5_append x4 w_tB w_tN).2)).1), ((f_X5_append x5 ((f_X5_append x4 w_tB w_tN).1) ((f_X5_append x4 w_tB w_tN).2)).2)) := by rw [hv, f_X6_feed_L36]
    exact fi 61 _ (f_X5_size ((f_X5_append x5 ((f_X5_append x4 w_tB w_tN).1) ((f_X5_append x4 w_tB w_tN).2)).2)) .int _ _ rfl rfl dX6_feed_61 (by simp only [e9]) (by rw [e9]; exact hP) (by rw [e9]; exact hD) hS
  rw [k_X6_feed] at hk
  refine lv_aload_n hx hb dX6_feed_0 rfl (lv_at hl 0 rfl) ?_
  refine va_get (D := gD G) (ci := 6) (v := .ref q_t) (C := RX6) (T := TX6) (N := 8) hx hb hts i_X6 hown hB.1 hP 0 rfl rfl 0 (by decide) t_0 (fun _ h9 => h9) rfl dX6_feed_1 ?_
  refine ro_V (ci := 5) (q0 := 1) (As := []) (rest := []) (c_X5_hasRoomForFive l G q_t q_tB tN) [1] rfl rfl rfl rfl gX6_feed_X5_hasRoomForFive ⟨_, rfl⟩ hd_X5_hasRoomForFive rfl dX6_feed_4 rfl rfl (Nat.le_of_ble_eq_true rfl) ⟨Nat.le_of_ble_eq_true rfl, Nat.le_of_ble_eq_true rfl⟩ ⟨Nat.le_refl 0, Nat.le_refl 0⟩ hx hb hml hown hts hB hS hP hl.1 ?_
  refine W.eq (g2 := F0 m 7 ls [.int (f_X5_hasRoomForFive tN)]) rfl ?_
  refine lv_if_ne (tgt := 12) hx hb dX6_feed_7 (by decide) (fun c_1 => ?_) (fun c_1 => ?_)
  · rw [if_neg c_1] at hk
    refine lv_aload_n hx hb dX6_feed_12 rfl (lv_at hl 0 rfl) ?_
    refine va_get (D := gD G) (ci := 6) (v := .ref q_t) (C := RX6) (T := TX6) (N := 8) hx hb hts i_X6 hown hB.1 hP 0 rfl rfl 0 (by decide) t_0 (fun _ h9 => h9) rfl dX6_feed_13 ?_
    refine lv_iload_n hx hb dX6_feed_16 rfl (lv_at hl 1 rfl) ?_
    obtain ⟨o_2, hk⟩ := hk
    refine wr_V (ci := 5) (q0 := 1) (As := [.int x1]) (rest := []) (wr := [oX6 q_x q_t q_b q_d q_e q_r q_s q_p xF]) (wf := [oX6 q_x q_t q_b q_d q_e q_r q_s q_p xF, oX5 q_t q_tB ((f_X5_append x1 tB tN).2), aB G q_tB 740 ((f_X5_append x1 tB tN).1)]) (c_X5_append l G q_t q_tB tN tB x1 o_2) [1, 2] [0] [0, 1, 2] rfl rfl rfl (by decide) rfl rfl rfl gX6_feed_X5_append ⟨_, rfl⟩ hd_X5_append rfl dX6_feed_17 rfl rfl (Nat.le_of_ble_eq_true rfl) ⟨Nat.le_of_ble_eq_true rfl, Nat.le_of_ble_eq_true rfl⟩ ⟨Nat.le_refl 0, Nat.le_refl 0⟩ hx hb hml hown hts hB hD hS hA hP hl.1 (fun H locs hP hD hS => ?_)
    refine W.eq (g2 := F0 m 20 ls []) rfl ?_
    refine lv_aload_n hx hb dX6_feed_20 rfl (lv_at hl 0 rfl) ?_
    refine va_get (D := gD G) (ci := 6) (v := .ref q_t) (C := RX6) (T := TX6) (N := 8) hx hb hts i_X6 hown hB.1 hP 0 rfl rfl 0 (by decide) t_0 (fun _ h9 => h9) rfl dX6_feed_21 ?_
    refine lv_iload_n hx hb dX6_feed_24 rfl (lv_at hl 2 rfl) ?_
    obtain ⟨o_3, hk⟩ := hk
    refine wr_V (ci := 5) (q0 := 1) (As := [.int x2]) (rest := []) (wr := [oX6 q_x q_t q_b q_d q_e q_r q_s q_p xF]) (wf := [oX6 q_x q_t q_b q_d q_e q_r q_s q_p xF, oX5 q_t q_tB ((f_X5_append x2 ((f_X5_append x1 tB tN).1) ((f_X5_append x1 tB tN).2)).2), aB G q_tB 740 ((f_X5_append x2 ((f_X5_append x1 tB tN).1) ((f_X5_append x1 tB tN).2)).1)]) (c_X5_append l G q_t q_tB ((f_X5_append x1 tB tN).2) ((f_X5_append x1 tB tN).1) x2 o_3) [1, 2] [0] [0, 1, 2] rfl rfl rfl (by decide) rfl rfl rfl gX6_feed_X5_append ⟨_, rfl⟩ hd_X5_append rfl dX6_feed_25 rfl rfl (Nat.le_of_ble_eq_true rfl) ⟨Nat.le_of_ble_eq_true rfl, Nat.le_of_ble_eq_true rfl⟩ ⟨Nat.le_refl 0, Nat.le_refl 0⟩ hx hb hml hown hts hB hD hS hA hP hl.1 (fun H locs hP hD hS => ?_)
    refine W.eq (g2 := F0 m 28 ls []) rfl ?_
    refine lv_aload_n hx hb dX6_feed_28 rfl (lv_at hl 0 rfl) ?_
    refine va_get (D := gD G) (ci := 6) (v := .ref q_t) (C := RX6) (T := TX6) (N := 8) hx hb hts i_X6 hown hB.1 hP 0 rfl rfl 0 (by decide) t_0 (fun _ h9 => h9) rfl dX6_feed_29 ?_
    refine lv_iload_n hx hb dX6_feed_32 rfl (lv_at hl 3 rfl) ?_
    obtain ⟨o_4, hk⟩ := hk
    refine wr_V (ci := 5) (q0 := 1) (As := [.int x3]) (rest := []) (wr := [oX6 q_x q_t q_b q_d q_e q_r q_s q_p xF]) (wf := [oX6 q_x q_t q_b q_d q_e q_r q_s q_p xF, oX5 q_t q_tB ((f_X5_append x3 ((f_X5_append x2 ((f_X5_append x1 tB tN).1) ((f_X5_append x1 tB tN).2)).1) ((f_X5_append x2 ((f_X5_append x1 tB tN).1) ((f_X5_append x1 tB tN).2)).2)).2), aB G q_tB 740 ((f_X5_append x3 ((f_X5_append x2 ((f_X5_append x1 tB tN).1) ((f_X5_append x1 tB tN).2)).1) ((f_X5_append x2 ((f_X5_append x1 tB tN).1) ((f_X5_append x1 tB tN).2)).2)).1)]) (c_X5_append l G q_t q_tB ((f_X5_append x2 ((f_X5_append x1 tB tN).1) ((f_X5_append x1 tB tN).2)).2) ((f_X5_append x2 ((f_X5_append x1 tB tN).1) ((f_X5_append x1 tB tN).2)).1) x3 o_4) [1, 2] [0] [0, 1, 2] rfl rfl rfl (by decide) rfl rfl rfl gX6_feed_X5_append ⟨_, rfl⟩ hd_X5_append rfl dX6_feed_33 rfl rfl (Nat.le_of_ble_eq_true rfl) ⟨Nat.le_of_ble_eq_true rfl, Nat.le_of_ble_eq_true rfl⟩ ⟨Nat.le_refl 0, Nat.le_refl 0⟩ hx hb hml hown hts hB hD hS hA hP hl.1 (fun H locs hP hD hS => ?_)
    refine W.eq (g2 := F0 m 36 ls []) rfl ?_
    exact T36 ((f_X5_append x3 ((f_X5_append x2 ((f_X5_append x1 tB tN).1) ((f_X5_append x1 tB tN).2)).1) ((f_X5_append x2 ((f_X5_append x1 tB tN).1) ((f_X5_append x1 tB tN).2)).2)).1) ((f_X5_append x3 ((f_X5_append x2 ((f_X5_append x1 tB tN).1) ((f_X5_append x1 tB tN).2)).1) ((f_X5_append x2 ((f_X5_append x1 tB tN).1) ((f_X5_append x1 tB tN).2)).2)).2) hk (by rw [f_X6_feed, if_neg c_1]) _ _ hP hD hS ls (lv_sub hl [0, 4, 5] rfl)
  · rw [if_pos c_1] at hk
    refine lv_iconst (v := (-1)) hx hb dX6_feed_10 (by decide) ?_
    have e9 : f_X6_feed x1 x2 x3 x4 x5 tB tN = ((-1), tB, tN) := by rw [f_X6_feed, if_pos c_1]
    exact fi 11 _ (-1) .int _ _ rfl rfl dX6_feed_11 (by simp only [e9]) (by rw [e9]; exact hP) (by rw [e9]; exact hD) hS

def f_X6_end (x1 : Int32) (tN : Int32) : Int32 × Int32 := (((f_X5_cutTo x1 tN).1), ((f_X5_cutTo x1 tN).2))
def k_X6_end (x1 : Int32) (tN : Int32) : Prop := ((((f_X5_cutTo x1 tN).1) = 0 ∨ ((f_X5_cutTo x1 tN).1) = 1) ∧ True)
theorem hd_X6_end : yX6_end.cls ≠ "java/lang/invoke/MethodHandle" ∧ yX6_end.cls ≠ "java/lang/invoke/VarHandle" ∧ (parseMethodDescriptor yX6_end.desc).map (fun d => d.parameters.length) = some 1 := by decide +kernel
set_option maxHeartbeats 4000000 in
set_option maxRecDepth 100000 in
theorem c_X6_end (l : Launch) (G : BGT) (q_x q_t q_b q_d q_e q_r q_s q_p q_tB : Nat) (xF : Int32) (tN : Int32) (x1 : Int32) (hk : k_X6_end x1 tN) : WR l yX6_end wsX6_end 1 G [oX6 q_x q_t q_b q_d q_e q_r q_s q_p xF, oX5 q_t q_tB tN] [oX6 q_x q_t q_b q_d q_e q_r q_s q_p xF, oX5 q_t q_tB ((f_X6_end x1 tN).2)] [.ref q_x, .int x1] (some (.int ((f_X6_end x1 tN).1))) := by
  refine WR.ofW (cc := cX6_end) (maxL := 2) (ret := (some .boolean)) (C := RX6) (by decide) rfl rfl (Nat.le_of_ble_eq_true rfl) ?_
  intro p e s m args below meth c Q ls A hx hb hml hts hown hP hD hS hA hB hl fi fv
  have hl : lv_has ls 2 [(0, .ref q_x), (1, .int x1)] := hl
  have t_0 := hts (.fieldLink RX6 12 "ParcelSplit" "tape" "LParcelSplit$Tape;") (by decide +kernel)
  have i_X6 : ∀ w ∈ wsX60, w ∈ wsX6_end := by decide +kernel
  rw [k_X6_end] at hk
  refine lv_aload_n hx hb dX6_end_0 rfl (lv_at hl 0 rfl) ?_
  refine va_get (D := gD G) (ci := 6) (v := .ref q_t) (C := RX6) (T := TX6) (N := 8) hx hb hts i_X6 hown hB.1 hP 0 rfl rfl 0 (by decide) t_0 (fun _ h9 => h9) rfl dX6_end_1 ?_
  refine lv_iload_n hx hb dX6_end_4 rfl (lv_at hl 1 rfl) ?_
  refine wr_V (ci := 5) (q0 := 1) (As := [.int x1]) (rest := []) (wr := [oX6 q_x q_t q_b q_d q_e q_r q_s q_p xF]) (wf := [oX6 q_x q_t q_b q_d q_e q_r q_s q_p xF, oX5 q_t q_tB ((f_X5_cutTo x1 tN).2)]) (c_X5_cutTo l G q_t q_tB tN x1) [1] [0] [0, 1] rfl rfl rfl (by decide) rfl rfl rfl gX6_end_X5_cutTo ⟨_, rfl⟩ hd_X5_cutTo rfl dX6_end_5 rfl rfl (Nat.le_of_ble_eq_true rfl) ⟨Nat.le_of_ble_eq_true rfl, Nat.le_of_ble_eq_true rfl⟩ ⟨Nat.le_refl 0, Nat.le_refl 0⟩ hx hb hml hown hts hB hD hS hA hP hl.1 (fun H locs hP hD hS => ?_)
  refine W.eq (g2 := F0 m 8 ls [.int ((f_X5_cutTo x1 tN).1)]) rfl ?_
  obtain ⟨o_1, hk⟩ := hk
  have e9 : f_X6_end x1 tN = (((f_X5_cutTo x1 tN).1), ((f_X5_cutTo x1 tN).2)) := by rw [f_X6_end]
  exact fi 8 _ ((f_X5_cutTo x1 tN).1) .boolean _ _ rfl (nb01 o_1) dX6_end_8 (by simp only [e9]) (by rw [e9]; exact hP) (by rw [e9]; exact hD) hS

def f_X6_fault (xF : Int32) : Int32 := xF
theorem hd_X6_fault : yX6_fault.cls ≠ "java/lang/invoke/MethodHandle" ∧ yX6_fault.cls ≠ "java/lang/invoke/VarHandle" ∧ (parseMethodDescriptor yX6_fault.desc).map (fun d => d.parameters.length) = some 0 := by decide +kernel
set_option maxHeartbeats 4000000 in
set_option maxRecDepth 100000 in
theorem c_X6_fault (l : Launch) (G : BGT) (q_x q_t q_b q_d q_e q_r q_s q_p : Nat) (xF : Int32) : RO l yX6_fault wsX6_fault 0 G [oX6 q_x q_t q_b q_d q_e q_r q_s q_p xF] [.ref q_x] (some (.int (f_X6_fault xF))) := by
  refine RO.ofW (cc := cX6_fault) (maxL := 1) (ret := (some .int)) (C := RX6) (by decide) rfl rfl (Nat.le_of_ble_eq_true rfl) ?_
  intro p e s m args below meth c Q ls hx hb hml hts hown hP hB hl fi fl fv
  have hS : va_S (fun _ => False) s.heap s.heap [] := va_S.rf
  have hl : lv_has ls 1 [(0, .ref q_x)] := hl
  have t_0 := hts (.fieldLink RX6 88 "ParcelSplit" "faultKind" "I") (by decide +kernel)
  have i_X6 : ∀ w ∈ wsX60, w ∈ wsX6_fault := by decide +kernel
  refine lv_aload_n hx hb dX6_fault_0 rfl (lv_at hl 0 rfl) ?_
  refine va_get (D := gD G) (ci := 6) (v := .int xF) (C := RX6) (T := TX6) (N := 8) hx hb hts i_X6 hown hB.1 hP 0 rfl rfl 7 (by decide) t_0 (fun _ h9 => h9) rfl dX6_fault_1 ?_
  exact fi 4 _ xF .int rfl rfl dX6_fault_4 (by rw [f_X6_fault])

def f_X6_now (x1 : Int32) (pS : Nat → Int32) (tN : Int32) (pK : Int32) (bC : Int32) (bM : Int32) : Int32 := (if x1 = 0 then (f_X0_carrierCount bC) else (if x1 = 1 then (f_X0_goodCount bM) else (if x1 = 2 then (f_X1_place pS) else (if x1 = 3 then (f_X1_day pS) else (if x1 = 4 then (f_X1_packedGoods pS) else (if x1 = 5 then (f_X1_filledParcels pS) else (if x1 = 6 then (f_X1_keptCount pK) else (if x1 = 7 then (f_X5_size tN) else (-1)))))))))
def k_X6_now (x1 : Int32) (pS : Nat → Int32) : Prop := (if x1 = 0 then True else (if x1 = 1 then True else (if x1 = 2 then True else (if x1 = 3 then True else (if x1 = 4 then (k_X1_packedGoods pS ∧ True) else (if x1 = 5 then (k_X1_filledParcels pS ∧ True) else True))))))
theorem hd_X6_now : yX6_now.cls ≠ "java/lang/invoke/MethodHandle" ∧ yX6_now.cls ≠ "java/lang/invoke/VarHandle" ∧ (parseMethodDescriptor yX6_now.desc).map (fun d => d.parameters.length) = some 1 := by decide +kernel
set_option maxHeartbeats 4000000 in
set_option maxRecDepth 100000 in
theorem c_X6_now (l : Launch) (G : BGT) (q_x q_t q_b q_d q_e q_r q_s q_p q_tB q_bA q_bB q_bZ q_bG q_bP q_bQ q_pS q_pE : Nat) (xF : Int32) (tN : Int32) (bC : Int32) (bM : Int32) (bL : Int32) (bD : Int32) (pN : Int32) (pK : Int32) (pS : Nat → Int32) (x1 : Int32) (hk : k_X6_now x1 pS) : RO l yX6_now wsX6_now 4 G [oX6 q_x q_t q_b q_d q_e q_r q_s q_p xF, oX5 q_t q_tB tN, oX0 q_b q_bA q_bB q_bZ q_bG q_bP q_bQ bC bM bL bD, oX1 q_p q_pS q_pE pN pK, aI G q_pS 26 pS] [.ref q_x, .int x1] (some (.int (f_X6_now x1 pS tN pK bC bM))) := by
  refine RO.ofW (cc := cX6_now) (maxL := 2) (ret := (some .int)) (C := RX6) (by decide) rfl rfl (Nat.le_of_ble_eq_true rfl) ?_
  intro p e s m args below meth c Q ls hx hb hml hts hown hP hB hl fi fl fv
  have hS : va_S (fun _ => False) s.heap s.heap [] := va_S.rf
  have hl : lv_has ls 2 [(0, .ref q_x), (1, .int x1)] := hl
  have t_0 := hts (.fieldLink RX6 19 "ParcelSplit" "book" "LParcelSplit$Book;") (by decide +kernel)
  have t_1 := hts (.fieldLink RX6 56 "ParcelSplit" "plan" "LParcelSplit$Plan;") (by decide +kernel)
  have t_2 := hts (.fieldLink RX6 12 "ParcelSplit" "tape" "LParcelSplit$Tape;") (by decide +kernel)
  have i_X6 : ∀ w ∈ wsX60, w ∈ wsX6_now := by decide +kernel
  rw [k_X6_now] at hk
  refine lv_iload_n hx hb dX6_now_0 rfl (lv_at hl 1 rfl) ?_
  by_cases c_1 : x1 = 0
  · rw [if_pos c_1] at hk
    refine lv_tableIn (tgt := 48) (off := 47) hx hb dX6_now_1 (by rw [c_1]; decide) (by rw [c_1]; decide) (by rw [c_1]; rfl) (by decide) ?_
    refine lv_aload_n hx hb dX6_now_48 rfl (lv_at hl 0 rfl) ?_
    refine va_get (D := gD G) (ci := 6) (v := .ref q_b) (C := RX6) (T := TX6) (N := 8) hx hb hts i_X6 hown hB.1 hP 0 rfl rfl 1 (by decide) t_0 (fun _ h9 => h9) rfl dX6_now_49 ?_
    refine ro_V (ci := 0) (q0 := 2) (As := []) (rest := []) (c_X0_carrierCount l G q_b q_bA q_bB q_bZ q_bG q_bP q_bQ bC bM bL bD) [2] rfl rfl rfl rfl gX6_now_X0_carrierCount ⟨_, rfl⟩ hd_X0_carrierCount rfl dX6_now_52 rfl rfl (Nat.le_of_ble_eq_true rfl) ⟨Nat.le_of_ble_eq_true rfl, Nat.le_of_ble_eq_true rfl⟩ ⟨Nat.le_refl 0, Nat.le_refl 0⟩ hx hb hml hown hts hB hS hP hl.1 ?_
    refine W.eq (g2 := F0 m 55 ls [.int (f_X0_carrierCount bC)]) rfl ?_
    exact fi 55 _ (f_X0_carrierCount bC) .int rfl rfl dX6_now_55 (by rw [f_X6_now, if_pos c_1])
  · rw [if_neg c_1] at hk
    by_cases c_2 : x1 = 1
    · rw [if_pos c_2] at hk
      refine lv_tableIn (tgt := 56) (off := 55) hx hb dX6_now_1 (by rw [c_2]; decide) (by rw [c_2]; decide) (by rw [c_2]; rfl) (by decide) ?_
      refine lv_aload_n hx hb dX6_now_56 rfl (lv_at hl 0 rfl) ?_
      refine va_get (D := gD G) (ci := 6) (v := .ref q_b) (C := RX6) (T := TX6) (N := 8) hx hb hts i_X6 hown hB.1 hP 0 rfl rfl 1 (by decide) t_0 (fun _ h9 => h9) rfl dX6_now_57 ?_
      refine ro_V (ci := 0) (q0 := 2) (As := []) (rest := []) (c_X0_goodCount l G q_b q_bA q_bB q_bZ q_bG q_bP q_bQ bC bM bL bD) [2] rfl rfl rfl rfl gX6_now_X0_goodCount ⟨_, rfl⟩ hd_X0_goodCount rfl dX6_now_60 rfl rfl (Nat.le_of_ble_eq_true rfl) ⟨Nat.le_of_ble_eq_true rfl, Nat.le_of_ble_eq_true rfl⟩ ⟨Nat.le_refl 0, Nat.le_refl 0⟩ hx hb hml hown hts hB hS hP hl.1 ?_
      refine W.eq (g2 := F0 m 63 ls [.int (f_X0_goodCount bM)]) rfl ?_
      exact fi 63 _ (f_X0_goodCount bM) .int rfl rfl dX6_now_63 (by rw [f_X6_now, if_neg c_1, if_pos c_2])
    · rw [if_neg c_2] at hk
      by_cases c_3 : x1 = 2
      · rw [if_pos c_3] at hk
        refine lv_tableIn (tgt := 64) (off := 63) hx hb dX6_now_1 (by rw [c_3]; decide) (by rw [c_3]; decide) (by rw [c_3]; rfl) (by decide) ?_
        refine lv_aload_n hx hb dX6_now_64 rfl (lv_at hl 0 rfl) ?_
        refine va_get (D := gD G) (ci := 6) (v := .ref q_p) (C := RX6) (T := TX6) (N := 8) hx hb hts i_X6 hown hB.1 hP 0 rfl rfl 6 (by decide) t_1 (fun _ h9 => h9) rfl dX6_now_65 ?_
        refine ro_V (ci := 1) (q0 := 3) (As := []) (rest := []) (c_X1_place l G q_p q_pS q_pE pN pK pS) [3, 4] rfl rfl rfl rfl gX6_now_X1_place ⟨_, rfl⟩ hd_X1_place rfl dX6_now_68 rfl rfl (Nat.le_of_ble_eq_true rfl) ⟨Nat.le_of_ble_eq_true rfl, Nat.le_of_ble_eq_true rfl⟩ ⟨Nat.le_refl 0, Nat.le_refl 0⟩ hx hb hml hown hts hB hS hP hl.1 ?_
        refine W.eq (g2 := F0 m 71 ls [.int (f_X1_place pS)]) rfl ?_
        exact fi 71 _ (f_X1_place pS) .int rfl rfl dX6_now_71 (by rw [f_X6_now, if_neg c_1, if_neg c_2, if_pos c_3])
      · rw [if_neg c_3] at hk
        by_cases c_4 : x1 = 3
        · rw [if_pos c_4] at hk
          refine lv_tableIn (tgt := 72) (off := 71) hx hb dX6_now_1 (by rw [c_4]; decide) (by rw [c_4]; decide) (by rw [c_4]; rfl) (by decide) ?_
          refine lv_aload_n hx hb dX6_now_72 rfl (lv_at hl 0 rfl) ?_
          refine va_get (D := gD G) (ci := 6) (v := .ref q_p) (C := RX6) (T := TX6) (N := 8) hx hb hts i_X6 hown hB.1 hP 0 rfl rfl 6 (by decide) t_1 (fun _ h9 => h9) rfl dX6_now_73 ?_
          refine ro_V (ci := 1) (q0 := 3) (As := []) (rest := []) (c_X1_day l G q_p q_pS q_pE pN pK pS) [3, 4] rfl rfl rfl rfl gX6_now_X1_day ⟨_, rfl⟩ hd_X1_day rfl dX6_now_76 rfl rfl (Nat.le_of_ble_eq_true rfl) ⟨Nat.le_of_ble_eq_true rfl, Nat.le_of_ble_eq_true rfl⟩ ⟨Nat.le_refl 0, Nat.le_refl 0⟩ hx hb hml hown hts hB hS hP hl.1 ?_
          refine W.eq (g2 := F0 m 79 ls [.int (f_X1_day pS)]) rfl ?_
          exact fi 79 _ (f_X1_day pS) .int rfl rfl dX6_now_79 (by rw [f_X6_now, if_neg c_1, if_neg c_2, if_neg c_3, if_pos c_4])
        · rw [if_neg c_4] at hk
          by_cases c_5 : x1 = 4
          · rw [if_pos c_5] at hk
            refine lv_tableIn (tgt := 80) (off := 79) hx hb dX6_now_1 (by rw [c_5]; decide) (by rw [c_5]; decide) (by rw [c_5]; rfl) (by decide) ?_
            refine lv_aload_n hx hb dX6_now_80 rfl (lv_at hl 0 rfl) ?_
            refine va_get (D := gD G) (ci := 6) (v := .ref q_p) (C := RX6) (T := TX6) (N := 8) hx hb hts i_X6 hown hB.1 hP 0 rfl rfl 6 (by decide) t_1 (fun _ h9 => h9) rfl dX6_now_81 ?_
            obtain ⟨o_6, hk⟩ := hk
            refine ro_V (ci := 1) (q0 := 3) (As := []) (rest := []) (c_X1_packedGoods l G q_p q_pS q_pE pN pK pS o_6) [3, 4] rfl rfl rfl rfl gX6_now_X1_packedGoods ⟨_, rfl⟩ hd_X1_packedGoods rfl dX6_now_84 rfl rfl (Nat.le_of_ble_eq_true rfl) ⟨Nat.le_of_ble_eq_true rfl, Nat.le_of_ble_eq_true rfl⟩ ⟨Nat.le_refl 0, Nat.le_refl 0⟩ hx hb hml hown hts hB hS hP hl.1 ?_
            refine W.eq (g2 := F0 m 87 ls [.int (f_X1_packedGoods pS)]) rfl ?_
            exact fi 87 _ (f_X1_packedGoods pS) .int rfl rfl dX6_now_87 (by rw [f_X6_now, if_neg c_1, if_neg c_2, if_neg c_3, if_neg c_4, if_pos c_5])
          · rw [if_neg c_5] at hk
            by_cases c_7 : x1 = 5
            · rw [if_pos c_7] at hk
              refine lv_tableIn (tgt := 88) (off := 87) hx hb dX6_now_1 (by rw [c_7]; decide) (by rw [c_7]; decide) (by rw [c_7]; rfl) (by decide) ?_
              refine lv_aload_n hx hb dX6_now_88 rfl (lv_at hl 0 rfl) ?_
              refine va_get (D := gD G) (ci := 6) (v := .ref q_p) (C := RX6) (T := TX6) (N := 8) hx hb hts i_X6 hown hB.1 hP 0 rfl rfl 6 (by decide) t_1 (fun _ h9 => h9) rfl dX6_now_89 ?_
              obtain ⟨o_8, hk⟩ := hk
              refine ro_V (ci := 1) (q0 := 3) (As := []) (rest := []) (c_X1_filledParcels l G q_p q_pS q_pE pN pK pS o_8) [3, 4] rfl rfl rfl rfl gX6_now_X1_filledParcels ⟨_, rfl⟩ hd_X1_filledParcels rfl dX6_now_92 rfl rfl (Nat.le_of_ble_eq_true rfl) ⟨Nat.le_of_ble_eq_true rfl, Nat.le_of_ble_eq_true rfl⟩ ⟨Nat.le_refl 0, Nat.le_refl 0⟩ hx hb hml hown hts hB hS hP hl.1 ?_
              refine W.eq (g2 := F0 m 95 ls [.int (f_X1_filledParcels pS)]) rfl ?_
              exact fi 95 _ (f_X1_filledParcels pS) .int rfl rfl dX6_now_95 (by rw [f_X6_now, if_neg c_1, if_neg c_2, if_neg c_3, if_neg c_4, if_neg c_5, if_pos c_7])
            · rw [if_neg c_7] at hk
              by_cases c_9 : x1 = 6
              · refine lv_tableIn (tgt := 96) (off := 95) hx hb dX6_now_1 (by rw [c_9]; decide) (by rw [c_9]; decide) (by rw [c_9]; rfl) (by decide) ?_
                refine lv_aload_n hx hb dX6_now_96 rfl (lv_at hl 0 rfl) ?_
                refine va_get (D := gD G) (ci := 6) (v := .ref q_p) (C := RX6) (T := TX6) (N := 8) hx hb hts i_X6 hown hB.1 hP 0 rfl rfl 6 (by decide) t_1 (fun _ h9 => h9) rfl dX6_now_97 ?_
                refine ro_V (ci := 1) (q0 := 3) (As := []) (rest := []) (c_X1_keptCount l G q_p q_pS q_pE pN pK) [3] rfl rfl rfl rfl gX6_now_X1_keptCount ⟨_, rfl⟩ hd_X1_keptCount rfl dX6_now_100 rfl rfl (Nat.le_of_ble_eq_true rfl) ⟨Nat.le_of_ble_eq_true rfl, Nat.le_of_ble_eq_true rfl⟩ ⟨Nat.le_refl 0, Nat.le_refl 0⟩ hx hb hml hown hts hB hS hP hl.1 ?_
                refine W.eq (g2 := F0 m 103 ls [.int (f_X1_keptCount pK)]) rfl ?_
                exact fi 103 _ (f_X1_keptCount pK) .int rfl rfl dX6_now_103 (by rw [f_X6_now, if_neg c_1, if_neg c_2, if_neg c_3, if_neg c_4, if_neg c_5, if_neg c_7, if_pos c_9])
              · by_cases c_10 : x1 = 7
                · refine lv_tableIn (tgt := 104) (off := 103) hx hb dX6_now_1 (by rw [c_10]; decide) (by rw [c_10]; decide) (by rw [c_10]; rfl) (by decide) ?_
                  refine lv_aload_n hx hb dX6_now_104 rfl (lv_at hl 0 rfl) ?_
                  refine va_get (D := gD G) (ci := 6) (v := .ref q_t) (C := RX6) (T := TX6) (N := 8) hx hb hts i_X6 hown hB.1 hP 0 rfl rfl 0 (by decide) t_2 (fun _ h9 => h9) rfl dX6_now_105 ?_
                  refine ro_V (ci := 5) (q0 := 1) (As := []) (rest := []) (c_X5_size l G q_t q_tB tN) [1] rfl rfl rfl rfl gX6_now_X5_size ⟨_, rfl⟩ hd_X5_size rfl dX6_now_108 rfl rfl (Nat.le_of_ble_eq_true rfl) ⟨Nat.le_of_ble_eq_true rfl, Nat.le_of_ble_eq_true rfl⟩ ⟨Nat.le_refl 0, Nat.le_refl 0⟩ hx hb hml hown hts hB hS hP hl.1 ?_
                  refine W.eq (g2 := F0 m 111 ls [.int (f_X5_size tN)]) rfl ?_
                  exact fi 111 _ (f_X5_size tN) .int rfl rfl dX6_now_111 (by rw [f_X6_now, if_neg c_1, if_neg c_2, if_neg c_3, if_neg c_4, if_neg c_5, if_neg c_7, if_neg c_9, if_pos c_10])
                · refine lv_tableOut (tgt := 112) hx hb dX6_now_1 (sw_out 0 7 (fun k h1 h2 => by have h3 : k = 0 ∨ k = 1 ∨ k = 2 ∨ k = 3 ∨ k = 4 ∨ k = 5 ∨ k = 6 ∨ k = 7 := (by omega); rcases h3 with rfl | rfl | rfl | rfl | rfl | rfl | rfl | rfl; exact c_1; exact c_2; exact c_3; exact c_4; exact c_5; exact c_7; exact c_9; exact c_10)) (by decide) ?_
                  refine lv_iconst (v := (-1)) hx hb dX6_now_112 (by decide) ?_
                  exact fi 113 _ (-1) .int rfl rfl dX6_now_113 (by rw [f_X6_now, if_neg c_1, if_neg c_2, if_neg c_3, if_neg c_4, if_neg c_5, if_neg c_7, if_neg c_9, if_neg c_10])

def f_X6_zone (x1 : Int32) (pS : Nat → Int32) (bZ : Nat → Int32) (bQ : Nat → Int32) (bC : Int32) : Int32 := (if (f_X0_hasCarrier x1 bC) = 0 then (-1) else (f_X6_zoneNow x1 pS bZ bQ))
def k_X6_zone (x1 : Int32) (pS : Nat → Int32) (bZ : Nat → Int32) (bQ : Nat → Int32) (bC : Int32) : Prop := (if (f_X0_hasCarrier x1 bC) = 0 then True else (k_X6_zoneNow x1 pS bZ bQ ∧ True))
theorem hd_X6_zone : yX6_zone.cls ≠ "java/lang/invoke/MethodHandle" ∧ yX6_zone.cls ≠ "java/lang/invoke/VarHandle" ∧ (parseMethodDescriptor yX6_zone.desc).map (fun d => d.parameters.length) = some 1 := by decide +kernel
set_option maxHeartbeats 4000000 in
set_option maxRecDepth 100000 in
theorem c_X6_zone (l : Launch) (G : BGT) (q_x q_t q_b q_d q_e q_r q_s q_p q_bA q_bB q_bZ q_bG q_bP q_bQ q_rK q_rL q_rG q_pS q_pE : Nat) (xF : Int32) (bC : Int32) (bM : Int32) (bL : Int32) (bD : Int32) (bZ : Nat → Int32) (bQ : Nat → Int32) (pN : Int32) (pK : Int32) (pS : Nat → Int32) (x1 : Int32) (hk : k_X6_zone x1 pS bZ bQ bC) : RO l yX6_zone wsX6_zone 4 G [oX6 q_x q_t q_b q_d q_e q_r q_s q_p xF, oX0 q_b q_bA q_bB q_bZ q_bG q_bP q_bQ bC bM bL bD, aI G q_bZ 45 bZ, aI G q_bQ 3 bQ, oX2 q_r q_b q_rK q_rL q_rG, oX1 q_p q_pS q_pE pN pK, aI G q_pS 26 pS] [.ref q_x, .int x1] (some (.int (f_X6_zone x1 pS bZ bQ bC))) := by
  refine RO.ofW (cc := cX6_zone) (maxL := 2) (ret := (some .int)) (C := RX6) (by decide) rfl rfl (Nat.le_of_ble_eq_true rfl) ?_
  intro p e s m args below meth c Q ls hx hb hml hts hown hP hB hl fi fl fv
  have hS : va_S (fun _ => False) s.heap s.heap [] := va_S.rf
  have hl : lv_has ls 2 [(0, .ref q_x), (1, .int x1)] := hl
  have t_0 := hts (.fieldLink RX6 19 "ParcelSplit" "book" "LParcelSplit$Book;") (by decide +kernel)
  have i_X6 : ∀ w ∈ wsX60, w ∈ wsX6_zone := by decide +kernel
  rw [k_X6_zone] at hk
  refine lv_aload_n hx hb dX6_zone_0 rfl (lv_at hl 0 rfl) ?_
  refine va_get (D := gD G) (ci := 6) (v := .ref q_b) (C := RX6) (T := TX6) (N := 8) hx hb hts i_X6 hown hB.1 hP 0 rfl rfl 1 (by decide) t_0 (fun _ h9 => h9) rfl dX6_zone_1 ?_
  refine lv_iload_n hx hb dX6_zone_4 rfl (lv_at hl 1 rfl) ?_
  refine ro_V (ci := 0) (q0 := 1) (As := [.int x1]) (rest := []) (c_X0_hasCarrier l G q_b q_bA q_bB q_bZ q_bG q_bP q_bQ bC bM bL bD x1) [1] rfl rfl rfl rfl gX6_zone_X0_hasCarrier ⟨_, rfl⟩ hd_X0_hasCarrier rfl dX6_zone_5 rfl rfl (Nat.le_of_ble_eq_true rfl) ⟨Nat.le_of_ble_eq_true rfl, Nat.le_of_ble_eq_true rfl⟩ ⟨Nat.le_refl 0, Nat.le_refl 0⟩ hx hb hml hown hts hB hS hP hl.1 ?_
  refine W.eq (g2 := F0 m 8 ls [.int (f_X0_hasCarrier x1 bC)]) rfl ?_
  refine lv_if_eq (tgt := 19) hx hb dX6_zone_8 (by decide) (fun c_1 => ?_) (fun c_1 => ?_)
  · rw [if_pos c_1] at hk
    refine lv_iconst (v := (-1)) hx hb dX6_zone_19 (by decide) ?_
    exact fi 20 _ (-1) .int rfl rfl dX6_zone_20 (by rw [f_X6_zone, if_pos c_1])
  · rw [if_neg c_1] at hk
    refine lv_aload_n hx hb dX6_zone_11 rfl (lv_at hl 0 rfl) ?_
    refine lv_iload_n hx hb dX6_zone_12 rfl (lv_at hl 1 rfl) ?_
    obtain ⟨o_2, hk⟩ := hk
    refine ro_V (ci := 6) (q0 := 0) (As := [.int x1]) (rest := []) (c_X6_zoneNow l G q_x q_t q_b q_d q_e q_r q_s q_p q_bA q_bB q_bZ q_bG q_bP q_bQ q_rK q_rL q_rG q_pS q_pE xF bC bM bL bD bZ bQ pN pK pS x1 o_2) [0, 1, 2, 3, 4, 5, 6] rfl rfl rfl rfl gX6_zone_X6_zoneNow ⟨_, rfl⟩ hd_X6_zoneNow rfl dX6_zone_13 rfl rfl (Nat.le_of_ble_eq_true rfl) ⟨Nat.le_of_ble_eq_true rfl, Nat.le_of_ble_eq_true rfl⟩ ⟨Nat.le_refl 0, Nat.le_refl 0⟩ hx hb hml hown hts hB hS hP hl.1 ?_
    refine W.eq (g2 := F0 m 16 ls [.int (f_X6_zoneNow x1 pS bZ bQ)]) rfl ?_
    refine lv_goto (tgt := 20) hx hb dX6_zone_16 (by decide) ?_
    exact fi 20 _ (f_X6_zoneNow x1 pS bZ bQ) .int rfl rfl dX6_zone_20 (by rw [f_X6_zone, if_neg c_1])

def f_X6_rate (x1 : Int32) (x2 : Int32) (pS : Nat → Int32) (bB : Nat → Int32) (bZ : Nat → Int32) (bP : Nat → Int32) (bQ : Nat → Int32) (bC : Int32) : Int32 := (if (f_X0_hasCarrier x1 bC) = 0 then (-1) else (if x2 < 1 then (-1) else (if x2 ≤ 999 then (if 0 ≤ (f_X2_priceOf x1 (f_X6_zoneNow x1 pS bZ bQ) x2 bB bP) then (f_X2_priceOf x1 (f_X6_zoneNow x1 pS bZ bQ) x2 bB bP) else (-2)) else (-1))))
def k_X6_rate (x1 : Int32) (x2 : Int32) (pS : Nat → Int32) (bB : Nat → Int32) (bZ : Nat → Int32) (bP : Nat → Int32) (bQ : Nat → Int32) (bC : Int32) : Prop := (if (f_X0_hasCarrier x1 bC) = 0 then True else (if x2 < 1 then True else (if x2 ≤ 999 then (k_X6_zoneNow x1 pS bZ bQ ∧ (k_X2_priceOf x1 (f_X6_zoneNow x1 pS bZ bQ) x2 bB bP ∧ True)) else True)))
theorem hd_X6_rate : yX6_rate.cls ≠ "java/lang/invoke/MethodHandle" ∧ yX6_rate.cls ≠ "java/lang/invoke/VarHandle" ∧ (parseMethodDescriptor yX6_rate.desc).map (fun d => d.parameters.length) = some 2 := by decide +kernel
set_option maxHeartbeats 4000000 in
set_option maxRecDepth 100000 in
theorem c_X6_rate (l : Launch) (G : BGT) (q_x q_t q_b q_d q_e q_r q_s q_p q_bA q_bB q_bZ q_bG q_bP q_bQ q_rK q_rL q_rG q_pS q_pE : Nat) (xF : Int32) (bC : Int32) (bM : Int32) (bL : Int32) (bD : Int32) (bB : Nat → Int32) (bZ : Nat → Int32) (bP : Nat → Int32) (bQ : Nat → Int32) (pN : Int32) (pK : Int32) (pS : Nat → Int32) (x1 : Int32) (x2 : Int32) (hk : k_X6_rate x1 x2 pS bB bZ bP bQ bC) : RO l yX6_rate wsX6_rate 4 G [oX6 q_x q_t q_b q_d q_e q_r q_s q_p xF, oX0 q_b q_bA q_bB q_bZ q_bG q_bP q_bQ bC bM bL bD, aI G q_bB 60 bB, aI G q_bZ 45 bZ, aI G q_bP 3 bP, aI G q_bQ 3 bQ, oX2 q_r q_b q_rK q_rL q_rG, oX1 q_p q_pS q_pE pN pK, aI G q_pS 26 pS] [.ref q_x, .int x1, .int x2] (some (.int (f_X6_rate x1 x2 pS bB bZ bP bQ bC))) := by
  refine RO.ofW (cc := cX6_rate) (maxL := 4) (ret := (some .int)) (C := RX6) (by decide) rfl rfl (Nat.le_of_ble_eq_true rfl) ?_
  intro p e s m args below meth c Q ls hx hb hml hts hown hP hB hl fi fl fv
  have hS : va_S (fun _ => False) s.heap s.heap [] := va_S.rf
  have hl : lv_has ls 4 [(0, .ref q_x), (1, .int x1), (2, .int x2)] := hl
  have t_0 := hts (.fieldLink RX6 19 "ParcelSplit" "book" "LParcelSplit$Book;") (by decide +kernel)
  have t_1 := hts (.fieldLink RX6 40 "ParcelSplit" "prices" "LParcelSplit$Prices;") (by decide +kernel)
  have i_X6 : ∀ w ∈ wsX60, w ∈ wsX6_rate := by decide +kernel
  rw [k_X6_rate] at hk
  refine lv_aload_n hx hb dX6_rate_0 rfl (lv_at hl 0 rfl) ?_
  refine va_get (D := gD G) (ci := 6) (v := .ref q_b) (C := RX6) (T := TX6) (N := 8) hx hb hts i_X6 hown hB.1 hP 0 rfl rfl 1 (by decide) t_0 (fun _ h9 => h9) rfl dX6_rate_1 ?_
  refine lv_iload_n hx hb dX6_rate_4 rfl (lv_at hl 1 rfl) ?_
  refine ro_V (ci := 0) (q0 := 1) (As := [.int x1]) (rest := []) (c_X0_hasCarrier l G q_b q_bA q_bB q_bZ q_bG q_bP q_bQ bC bM bL bD x1) [1] rfl rfl rfl rfl gX6_rate_X0_hasCarrier ⟨_, rfl⟩ hd_X0_hasCarrier rfl dX6_rate_5 rfl rfl (Nat.le_of_ble_eq_true rfl) ⟨Nat.le_of_ble_eq_true rfl, Nat.le_of_ble_eq_true rfl⟩ ⟨Nat.le_refl 0, Nat.le_refl 0⟩ hx hb hml hown hts hB hS hP hl.1 ?_
  refine W.eq (g2 := F0 m 8 ls [.int (f_X0_hasCarrier x1 bC)]) rfl ?_
  refine lv_if_eq (tgt := 23) hx hb dX6_rate_8 (by decide) (fun c_1 => ?_) (fun c_1 => ?_)
  · rw [if_pos c_1] at hk
    refine lv_iconst (v := (-1)) hx hb dX6_rate_23 (by decide) ?_
    exact fi 24 _ (-1) .int rfl rfl dX6_rate_24 (by rw [f_X6_rate, if_pos c_1])
  · rw [if_neg c_1] at hk
    refine lv_iload_n hx hb dX6_rate_11 rfl (lv_at hl 2 rfl) ?_
    refine lv_iconst (v := 1) hx hb dX6_rate_12 (by decide) ?_
    refine lv_icmp_lt (tgt := 23) hx hb dX6_rate_13 (by decide) (fun c_2 => ?_) (fun c_2 => ?_)
    · rw [if_pos c_2] at hk
      refine lv_iconst (v := (-1)) hx hb dX6_rate_23 (by decide) ?_
      exact fi 24 _ (-1) .int rfl rfl dX6_rate_24 (by rw [f_X6_rate, if_neg c_1, if_pos c_2])
    · rw [if_neg c_2] at hk
      refine lv_iload_n hx hb dX6_rate_16 rfl (lv_at hl 2 rfl) ?_
      refine lv_sipush (v := 999) hx hb dX6_rate_17 (by decide) ?_
      refine lv_icmp_le (tgt := 25) hx hb dX6_rate_20 (by decide) (fun c_3 => ?_) (fun c_3 => ?_)
      · rw [if_pos c_3] at hk
        refine lv_aload_n hx hb dX6_rate_25 rfl (lv_at hl 0 rfl) ?_
        refine va_get (D := gD G) (ci := 6) (v := .ref q_r) (C := RX6) (T := TX6) (N := 8) hx hb hts i_X6 hown hB.1 hP 0 rfl rfl 4 (by decide) t_1 (fun _ h9 => h9) rfl dX6_rate_26 ?_
        refine lv_iload_n hx hb dX6_rate_29 rfl (lv_at hl 1 rfl) ?_
        refine lv_aload_n hx hb dX6_rate_30 rfl (lv_at hl 0 rfl) ?_
        refine lv_iload_n hx hb dX6_rate_31 rfl (lv_at hl 1 rfl) ?_
        obtain ⟨o_4, hk⟩ := hk
        refine ro_V (ci := 6) (q0 := 0) (As := [.int x1]) (rest := [.int x1, .ref q_r]) (c_X6_zoneNow l G q_x q_t q_b q_d q_e q_r q_s q_p q_bA q_bB q_bZ q_bG q_bP q_bQ q_rK q_rL q_rG q_pS q_pE xF bC bM bL bD bZ bQ pN pK pS x1 o_4) [0, 1, 3, 5, 6, 7, 8] rfl rfl rfl rfl gX6_rate_X6_zoneNow ⟨_, rfl⟩ hd_X6_zoneNow rfl dX6_rate_32 rfl rfl (Nat.le_of_ble_eq_true rfl) ⟨Nat.le_of_ble_eq_true rfl, Nat.le_of_ble_eq_true rfl⟩ ⟨Nat.le_refl 0, Nat.le_refl 0⟩ hx hb hml hown hts hB hS hP hl.1 ?_
        refine W.eq (g2 := F0 m 35 ls [.int (f_X6_zoneNow x1 pS bZ bQ), .int x1, .ref q_r]) rfl ?_
        refine lv_iload_n hx hb dX6_rate_35 rfl (lv_at hl 2 rfl) ?_
        obtain ⟨o_5, hk⟩ := hk
        refine ro_V (ci := 2) (q0 := 6) (As := [.int x1, .int (f_X6_zoneNow x1 pS bZ bQ), .int x2]) (rest := []) (c_X2_priceOf l G q_b q_bA q_bB q_bZ q_bG q_bP q_bQ q_r q_rK q_rL q_rG bC bM bL bD bB bP x1 (f_X6_zoneNow x1 pS bZ bQ) x2 o_5) [1, 2, 4, 6] rfl rfl rfl rfl gX6_rate_X2_priceOf ⟨_, rfl⟩ hd_X2_priceOf rfl dX6_rate_36 rfl rfl (Nat.le_of_ble_eq_true rfl) ⟨Nat.le_of_ble_eq_true rfl, Nat.le_of_ble_eq_true rfl⟩ ⟨Nat.le_refl 0, Nat.le_refl 0⟩ hx hb hml hown hts hB hS hP hl.1 ?_
        refine W.eq (g2 := F0 m 39 ls [.int (f_X2_priceOf x1 (f_X6_zoneNow x1 pS bZ bQ) x2 bB bP)]) rfl ?_
        refine lv_istore_n (lv' := [(3, .int (f_X2_priceOf x1 (f_X6_zoneNow x1 pS bZ bQ) x2 bB bP)), (0, .ref q_x), (1, .int x1), (2, .int x2)]) hx hb dX6_rate_39 rfl hl (by decide) rfl (fun ls hl => ?_)
        refine lv_iload_n hx hb dX6_rate_40 rfl (lv_at hl 0 rfl) ?_
        refine lv_if_ge (tgt := 49) hx hb dX6_rate_41 (by decide) (fun c_6 => ?_) (fun c_6 => ?_)
        · refine lv_iload_n hx hb dX6_rate_49 rfl (lv_at hl 0 rfl) ?_
          exact fi 50 _ (f_X2_priceOf x1 (f_X6_zoneNow x1 pS bZ bQ) x2 bB bP) .int rfl rfl dX6_rate_50 (by rw [f_X6_rate, if_neg c_1, if_neg c_2, if_pos c_3, if_pos c_6])
        · refine lv_bipush (v := (-2)) hx hb dX6_rate_44 (by decide) ?_
          refine lv_goto (tgt := 50) hx hb dX6_rate_46 (by decide) ?_
          exact fi 50 _ (-2) .int rfl rfl dX6_rate_50 (by rw [f_X6_rate, if_neg c_1, if_neg c_2, if_pos c_3, if_neg c_6])
      · rw [if_neg c_3] at hk
        refine lv_iconst (v := (-1)) hx hb dX6_rate_23 (by decide) ?_
        exact fi 24 _ (-1) .int rfl rfl dX6_rate_24 (by rw [f_X6_rate, if_neg c_1, if_neg c_2, if_neg c_3])

def f_X6_billed (x1 : Int32) (x2 : Int32) (rK : Nat → Int32) (rL : Nat → Int32) (bA : Nat → Int32) (bC : Int32) (bM : Int32) : Int32 := (if (f_X0_hasSet x1 bM) = 0 then (-1) else (if (f_X0_hasCarrier x2 bC) = 0 then (-1) else (f_X2_billedKilos x1 x2 (f_X2_kilosOf x1 rK) rL bA)))
def k_X6_billed (x1 : Int32) (x2 : Int32) (bA : Nat → Int32) (bC : Int32) (bM : Int32) : Prop := (if (f_X0_hasSet x1 bM) = 0 then True else (if (f_X0_hasCarrier x2 bC) = 0 then True else (k_X2_billedKilos x2 bA ∧ True)))
theorem hd_X6_billed : yX6_billed.cls ≠ "java/lang/invoke/MethodHandle" ∧ yX6_billed.cls ≠ "java/lang/invoke/VarHandle" ∧ (parseMethodDescriptor yX6_billed.desc).map (fun d => d.parameters.length) = some 2 := by decide +kernel
set_option maxHeartbeats 4000000 in
set_option maxRecDepth 100000 in
theorem c_X6_billed (l : Launch) (G : BGT) (q_x q_t q_b q_d q_e q_r q_s q_p q_bA q_bB q_bZ q_bG q_bP q_bQ q_rK q_rL q_rG : Nat) (xF : Int32) (bC : Int32) (bM : Int32) (bL : Int32) (bD : Int32) (bA : Nat → Int32) (rK : Nat → Int32) (rL : Nat → Int32) (x1 : Int32) (x2 : Int32) (hk : k_X6_billed x1 x2 bA bC bM) : RO l yX6_billed wsX6_billed 3 G [oX6 q_x q_t q_b q_d q_e q_r q_s q_p xF, oX0 q_b q_bA q_bB q_bZ q_bG q_bP q_bQ bC bM bL bD, aI G q_bA 18 bA, oX2 q_r q_b q_rK q_rL q_rG, aI G q_rK 256 rK, aI G q_rL 256 rL] [.ref q_x, .int x1, .int x2] (some (.int (f_X6_billed x1 x2 rK rL bA bC bM))) := by
  refine RO.ofW (cc := cX6_billed) (maxL := 3) (ret := (some .int)) (C := RX6) (by decide) rfl rfl (Nat.le_of_ble_eq_true rfl) ?_
  intro p e s m args below meth c Q ls hx hb hml hts hown hP hB hl fi fl fv
  have hS : va_S (fun _ => False) s.heap s.heap [] := va_S.rf
  have hl : lv_has ls 3 [(0, .ref q_x), (1, .int x1), (2, .int x2)] := hl
  have t_0 := hts (.fieldLink RX6 19 "ParcelSplit" "book" "LParcelSplit$Book;") (by decide +kernel)
  have t_1 := hts (.fieldLink RX6 40 "ParcelSplit" "prices" "LParcelSplit$Prices;") (by decide +kernel)
  have i_X6 : ∀ w ∈ wsX60, w ∈ wsX6_billed := by decide +kernel
  rw [k_X6_billed] at hk
  refine lv_aload_n hx hb dX6_billed_0 rfl (lv_at hl 0 rfl) ?_
  refine va_get (D := gD G) (ci := 6) (v := .ref q_b) (C := RX6) (T := TX6) (N := 8) hx hb hts i_X6 hown hB.1 hP 0 rfl rfl 1 (by decide) t_0 (fun _ h9 => h9) rfl dX6_billed_1 ?_
  refine lv_iload_n hx hb dX6_billed_4 rfl (lv_at hl 1 rfl) ?_
  refine ro_V (ci := 0) (q0 := 1) (As := [.int x1]) (rest := []) (c_X0_hasSet l G q_b q_bA q_bB q_bZ q_bG q_bP q_bQ bC bM bL bD x1) [1] rfl rfl rfl rfl gX6_billed_X0_hasSet ⟨_, rfl⟩ hd_X0_hasSet rfl dX6_billed_5 rfl rfl (Nat.le_of_ble_eq_true rfl) ⟨Nat.le_of_ble_eq_true rfl, Nat.le_of_ble_eq_true rfl⟩ ⟨Nat.le_refl 0, Nat.le_refl 0⟩ hx hb hml hown hts hB hS hP hl.1 ?_
  refine W.eq (g2 := F0 m 8 ls [.int (f_X0_hasSet x1 bM)]) rfl ?_
  refine lv_if_eq (tgt := 22) hx hb dX6_billed_8 (by decide) (fun c_1 => ?_) (fun c_1 => ?_)
  · rw [if_pos c_1] at hk
    refine lv_iconst (v := (-1)) hx hb dX6_billed_22 (by decide) ?_
    exact fi 23 _ (-1) .int rfl rfl dX6_billed_23 (by rw [f_X6_billed, if_pos c_1])
  · rw [if_neg c_1] at hk
    refine lv_aload_n hx hb dX6_billed_11 rfl (lv_at hl 0 rfl) ?_
    refine va_get (D := gD G) (ci := 6) (v := .ref q_b) (C := RX6) (T := TX6) (N := 8) hx hb hts i_X6 hown hB.1 hP 0 rfl rfl 1 (by decide) t_0 (fun _ h9 => h9) rfl dX6_billed_12 ?_
    refine lv_iload_n hx hb dX6_billed_15 rfl (lv_at hl 2 rfl) ?_
    refine ro_V (ci := 0) (q0 := 1) (As := [.int x2]) (rest := []) (c_X0_hasCarrier l G q_b q_bA q_bB q_bZ q_bG q_bP q_bQ bC bM bL bD x2) [1] rfl rfl rfl rfl gX6_billed_X0_hasCarrier ⟨_, rfl⟩ hd_X0_hasCarrier rfl dX6_billed_16 rfl rfl (Nat.le_of_ble_eq_true rfl) ⟨Nat.le_of_ble_eq_true rfl, Nat.le_of_ble_eq_true rfl⟩ ⟨Nat.le_refl 0, Nat.le_refl 0⟩ hx hb hml hown hts hB hS hP hl.1 ?_
    refine W.eq (g2 := F0 m 19 ls [.int (f_X0_hasCarrier x2 bC)]) rfl ?_
    refine lv_if_ne (tgt := 24) hx hb dX6_billed_19 (by decide) (fun c_2 => ?_) (fun c_2 => ?_)
    · rw [if_neg c_2] at hk
      refine lv_aload_n hx hb dX6_billed_24 rfl (lv_at hl 0 rfl) ?_
      refine va_get (D := gD G) (ci := 6) (v := .ref q_r) (C := RX6) (T := TX6) (N := 8) hx hb hts i_X6 hown hB.1 hP 0 rfl rfl 4 (by decide) t_1 (fun _ h9 => h9) rfl dX6_billed_25 ?_
      refine lv_iload_n hx hb dX6_billed_28 rfl (lv_at hl 1 rfl) ?_
      refine lv_iload_n hx hb dX6_billed_29 rfl (lv_at hl 2 rfl) ?_
      refine lv_aload_n hx hb dX6_billed_30 rfl (lv_at hl 0 rfl) ?_
      refine va_get (D := gD G) (ci := 6) (v := .ref q_r) (C := RX6) (T := TX6) (N := 8) hx hb hts i_X6 hown hB.1 hP 0 rfl rfl 4 (by decide) t_1 (fun _ h9 => h9) rfl dX6_billed_31 ?_
      refine lv_iload_n hx hb dX6_billed_34 rfl (lv_at hl 1 rfl) ?_
      refine ro_V (ci := 2) (q0 := 3) (As := [.int x1]) (rest := [.int x2, .int x1, .ref q_r]) (c_X2_kilosOf l G q_r q_b q_rK q_rL q_rG rK x1) [3, 4] rfl rfl rfl rfl gX6_billed_X2_kilosOf ⟨_, rfl⟩ hd_X2_kilosOf rfl dX6_billed_35 rfl rfl (Nat.le_of_ble_eq_true rfl) ⟨Nat.le_of_ble_eq_true rfl, Nat.le_of_ble_eq_true rfl⟩ ⟨Nat.le_refl 0, Nat.le_refl 0⟩ hx hb hml hown hts hB hS hP hl.1 ?_
      refine W.eq (g2 := F0 m 38 ls [.int (f_X2_kilosOf x1 rK), .int x2, .int x1, .ref q_r]) rfl ?_
      obtain ⟨o_3, hk⟩ := hk
      refine ro_V (ci := 2) (q0 := 3) (As := [.int x1, .int x2, .int (f_X2_kilosOf x1 rK)]) (rest := []) (c_X2_billedKilos l G q_b q_bA q_bB q_bZ q_bG q_bP q_bQ q_r q_rK q_rL q_rG bC bM bL bD bA rL x1 x2 (f_X2_kilosOf x1 rK) o_3) [1, 2, 3, 5] rfl rfl rfl rfl gX6_billed_X2_billedKilos ⟨_, rfl⟩ hd_X2_billedKilos rfl dX6_billed_38 rfl rfl (Nat.le_of_ble_eq_true rfl) ⟨Nat.le_of_ble_eq_true rfl, Nat.le_of_ble_eq_true rfl⟩ ⟨Nat.le_refl 0, Nat.le_refl 0⟩ hx hb hml hown hts hB hS hP hl.1 ?_
      refine W.eq (g2 := F0 m 41 ls [.int (f_X2_billedKilos x1 x2 (f_X2_kilosOf x1 rK) rL bA)]) rfl ?_
      exact fi 41 _ (f_X2_billedKilos x1 x2 (f_X2_kilosOf x1 rK) rL bA) .int rfl rfl dX6_billed_41 (by rw [f_X6_billed, if_neg c_1, if_neg c_2])
    · rw [if_pos c_2] at hk
      refine lv_iconst (v := (-1)) hx hb dX6_billed_22 (by decide) ?_
      exact fi 23 _ (-1) .int rfl rfl dX6_billed_23 (by rw [f_X6_billed, if_neg c_1, if_pos c_2])

def f_X6_charge (x1 : Int32) (x2 : Int32) (rK : Nat → Int32) (rL : Nat → Int32) (rG : Nat → Int32) (pS : Nat → Int32) (bA : Nat → Int32) (bB : Nat → Int32) (bZ : Nat → Int32) (bP : Nat → Int32) (bQ : Nat → Int32) (bC : Int32) (bM : Int32) : Int32 := (if (f_X0_hasSet x1 bM) = 0 then (-1) else (if (f_X0_hasCarrier x2 bC) = 0 then (-1) else (f_X2_chargeOf x1 x2 (f_X6_zoneNow x2 pS bZ bQ) (f_X2_kilosOf x1 rK) rL rG bA bB bP)))
def k_X6_charge (x1 : Int32) (x2 : Int32) (rK : Nat → Int32) (rL : Nat → Int32) (rG : Nat → Int32) (pS : Nat → Int32) (bA : Nat → Int32) (bB : Nat → Int32) (bZ : Nat → Int32) (bP : Nat → Int32) (bQ : Nat → Int32) (bC : Int32) (bM : Int32) : Prop := (if (f_X0_hasSet x1 bM) = 0 then True else (if (f_X0_hasCarrier x2 bC) = 0 then True else (k_X6_zoneNow x2 pS bZ bQ ∧ (k_X2_chargeOf x1 x2 (f_X6_zoneNow x2 pS bZ bQ) (f_X2_kilosOf x1 rK) rL rG bA bB bP ∧ True))))
theorem hd_X6_charge : yX6_charge.cls ≠ "java/lang/invoke/MethodHandle" ∧ yX6_charge.cls ≠ "java/lang/invoke/VarHandle" ∧ (parseMethodDescriptor yX6_charge.desc).map (fun d => d.parameters.length) = some 2 := by decide +kernel
set_option maxHeartbeats 4000000 in
set_option maxRecDepth 100000 in
theorem c_X6_charge (l : Launch) (G : BGT) (q_x q_t q_b q_d q_e q_r q_s q_p q_bA q_bB q_bZ q_bG q_bP q_bQ q_rK q_rL q_rG q_pS q_pE : Nat) (xF : Int32) (bC : Int32) (bM : Int32) (bL : Int32) (bD : Int32) (bA : Nat → Int32) (bB : Nat → Int32) (bZ : Nat → Int32) (bP : Nat → Int32) (bQ : Nat → Int32) (rK : Nat → Int32) (rL : Nat → Int32) (rG : Nat → Int32) (pN : Int32) (pK : Int32) (pS : Nat → Int32) (x1 : Int32) (x2 : Int32) (hk : k_X6_charge x1 x2 rK rL rG pS bA bB bZ bP bQ bC bM) : RO l yX6_charge wsX6_charge 4 G [oX6 q_x q_t q_b q_d q_e q_r q_s q_p xF, oX0 q_b q_bA q_bB q_bZ q_bG q_bP q_bQ bC bM bL bD, aI G q_bA 18 bA, aI G q_bB 60 bB, aI G q_bZ 45 bZ, aI G q_bP 3 bP, aI G q_bQ 3 bQ, oX2 q_r q_b q_rK q_rL q_rG, aI G q_rK 256 rK, aI G q_rL 256 rL, aI G q_rG 3 rG, oX1 q_p q_pS q_pE pN pK, aI G q_pS 26 pS] [.ref q_x, .int x1, .int x2] (some (.int (f_X6_charge x1 x2 rK rL rG pS bA bB bZ bP bQ bC bM))) := by
  refine RO.ofW (cc := cX6_charge) (maxL := 3) (ret := (some .int)) (C := RX6) (by decide) rfl rfl (Nat.le_of_ble_eq_true rfl) ?_
  intro p e s m args below meth c Q ls hx hb hml hts hown hP hB hl fi fl fv
  have hS : va_S (fun _ => False) s.heap s.heap [] := va_S.rf
  have hl : lv_has ls 3 [(0, .ref q_x), (1, .int x1), (2, .int x2)] := hl
  have t_0 := hts (.fieldLink RX6 19 "ParcelSplit" "book" "LParcelSplit$Book;") (by decide +kernel)
  have t_1 := hts (.fieldLink RX6 40 "ParcelSplit" "prices" "LParcelSplit$Prices;") (by decide +kernel)
  have i_X6 : ∀ w ∈ wsX60, w ∈ wsX6_charge := by decide +kernel
  rw [k_X6_charge] at hk
  refine lv_aload_n hx hb dX6_charge_0 rfl (lv_at hl 0 rfl) ?_
  refine va_get (D := gD G) (ci := 6) (v := .ref q_b) (C := RX6) (T := TX6) (N := 8) hx hb hts i_X6 hown hB.1 hP 0 rfl rfl 1 (by decide) t_0 (fun _ h9 => h9) rfl dX6_charge_1 ?_
  refine lv_iload_n hx hb dX6_charge_4 rfl (lv_at hl 1 rfl) ?_
  refine ro_V (ci := 0) (q0 := 1) (As := [.int x1]) (rest := []) (c_X0_hasSet l G q_b q_bA q_bB q_bZ q_bG q_bP q_bQ bC bM bL bD x1) [1] rfl rfl rfl rfl gX6_charge_X0_hasSet ⟨_, rfl⟩ hd_X0_hasSet rfl dX6_charge_5 rfl rfl (Nat.le_of_ble_eq_true rfl) ⟨Nat.le_of_ble_eq_true rfl, Nat.le_of_ble_eq_true rfl⟩ ⟨Nat.le_refl 0, Nat.le_refl 0⟩ hx hb hml hown hts hB hS hP hl.1 ?_
  refine W.eq (g2 := F0 m 8 ls [.int (f_X0_hasSet x1 bM)]) rfl ?_
  refine lv_if_eq (tgt := 22) hx hb dX6_charge_8 (by decide) (fun c_1 => ?_) (fun c_1 => ?_)
  · rw [if_pos c_1] at hk
    refine lv_iconst (v := (-1)) hx hb dX6_charge_22 (by decide) ?_
    exact fi 23 _ (-1) .int rfl rfl dX6_charge_23 (by rw [f_X6_charge, if_pos c_1])
  · rw [if_neg c_1] at hk
    refine lv_aload_n hx hb dX6_charge_11 rfl (lv_at hl 0 rfl) ?_
    refine va_get (D := gD G) (ci := 6) (v := .ref q_b) (C := RX6) (T := TX6) (N := 8) hx hb hts i_X6 hown hB.1 hP 0 rfl rfl 1 (by decide) t_0 (fun _ h9 => h9) rfl dX6_charge_12 ?_
    refine lv_iload_n hx hb dX6_charge_15 rfl (lv_at hl 2 rfl) ?_
    refine ro_V (ci := 0) (q0 := 1) (As := [.int x2]) (rest := []) (c_X0_hasCarrier l G q_b q_bA q_bB q_bZ q_bG q_bP q_bQ bC bM bL bD x2) [1] rfl rfl rfl rfl gX6_charge_X0_hasCarrier ⟨_, rfl⟩ hd_X0_hasCarrier rfl dX6_charge_16 rfl rfl (Nat.le_of_ble_eq_true rfl) ⟨Nat.le_of_ble_eq_true rfl, Nat.le_of_ble_eq_true rfl⟩ ⟨Nat.le_refl 0, Nat.le_refl 0⟩ hx hb hml hown hts hB hS hP hl.1 ?_
    refine W.eq (g2 := F0 m 19 ls [.int (f_X0_hasCarrier x2 bC)]) rfl ?_
    refine lv_if_ne (tgt := 24) hx hb dX6_charge_19 (by decide) (fun c_2 => ?_) (fun c_2 => ?_)
    · rw [if_neg c_2] at hk
      refine lv_aload_n hx hb dX6_charge_24 rfl (lv_at hl 0 rfl) ?_
      refine va_get (D := gD G) (ci := 6) (v := .ref q_r) (C := RX6) (T := TX6) (N := 8) hx hb hts i_X6 hown hB.1 hP 0 rfl rfl 4 (by decide) t_1 (fun _ h9 => h9) rfl dX6_charge_25 ?_
      refine lv_iload_n hx hb dX6_charge_28 rfl (lv_at hl 1 rfl) ?_
      refine lv_iload_n hx hb dX6_charge_29 rfl (lv_at hl 2 rfl) ?_
      refine lv_aload_n hx hb dX6_charge_30 rfl (lv_at hl 0 rfl) ?_
      refine lv_iload_n hx hb dX6_charge_31 rfl (lv_at hl 2 rfl) ?_
      obtain ⟨o_3, hk⟩ := hk
      refine ro_V (ci := 6) (q0 := 0) (As := [.int x2]) (rest := [.int x2, .int x1, .ref q_r]) (c_X6_zoneNow l G q_x q_t q_b q_d q_e q_r q_s q_p q_bA q_bB q_bZ q_bG q_bP q_bQ q_rK q_rL q_rG q_pS q_pE xF bC bM bL bD bZ bQ pN pK pS x2 o_3) [0, 1, 4, 6, 7, 11, 12] rfl rfl rfl rfl gX6_charge_X6_zoneNow ⟨_, rfl⟩ hd_X6_zoneNow rfl dX6_charge_32 rfl rfl (Nat.le_of_ble_eq_true rfl) ⟨Nat.le_of_ble_eq_true rfl, Nat.le_of_ble_eq_true rfl⟩ ⟨Nat.le_refl 0, Nat.le_refl 0⟩ hx hb hml hown hts hB hS hP hl.1 ?_
      refine W.eq (g2 := F0 m 35 ls [.int (f_X6_zoneNow x2 pS bZ bQ), .int x2, .int x1, .ref q_r]) rfl ?_
      refine lv_aload_n hx hb dX6_charge_35 rfl (lv_at hl 0 rfl) ?_
      refine va_get (D := gD G) (ci := 6) (v := .ref q_r) (C := RX6) (T := TX6) (N := 8) hx hb hts i_X6 hown hB.1 hP 0 rfl rfl 4 (by decide) t_1 (fun _ h9 => h9) rfl dX6_charge_36 ?_
      refine lv_iload_n hx hb dX6_charge_39 rfl (lv_at hl 1 rfl) ?_
      refine ro_V (ci := 2) (q0 := 7) (As := [.int x1]) (rest := [.int (f_X6_zoneNow x2 pS bZ bQ), .int x2, .int x1, .ref q_r]) (c_X2_kilosOf l G q_r q_b q_rK q_rL q_rG rK x1) [7, 8] rfl rfl rfl rfl gX6_charge_X2_kilosOf ⟨_, rfl⟩ hd_X2_kilosOf rfl dX6_charge_40 rfl rfl (Nat.le_of_ble_eq_true rfl) ⟨Nat.le_of_ble_eq_true rfl, Nat.le_of_ble_eq_true rfl⟩ ⟨Nat.le_refl 0, Nat.le_refl 0⟩ hx hb hml hown hts hB hS hP hl.1 ?_
      refine W.eq (g2 := F0 m 43 ls [.int (f_X2_kilosOf x1 rK), .int (f_X6_zoneNow x2 pS bZ bQ), .int x2, .int x1, .ref q_r]) rfl ?_
      obtain ⟨o_4, hk⟩ := hk
      refine ro_V (ci := 2) (q0 := 7) (As := [.int x1, .int x2, .int (f_X6_zoneNow x2 pS bZ bQ), .int (f_X2_kilosOf x1 rK)]) (rest := []) (c_X2_chargeOf l G q_b q_bA q_bB q_bZ q_bG q_bP q_bQ q_r q_rK q_rL q_rG bC bM bL bD bA bB bP rL rG x1 x2 (f_X6_zoneNow x2 pS bZ bQ) (f_X2_kilosOf x1 rK) o_4) [1, 2, 3, 5, 7, 9, 10] rfl rfl rfl rfl gX6_charge_X2_chargeOf ⟨_, rfl⟩ hd_X2_chargeOf rfl dX6_charge_43 rfl rfl (Nat.le_of_ble_eq_true rfl) ⟨Nat.le_of_ble_eq_true rfl, Nat.le_of_ble_eq_true rfl⟩ ⟨Nat.le_refl 0, Nat.le_refl 0⟩ hx hb hml hown hts hB hS hP hl.1 ?_
      refine W.eq (g2 := F0 m 46 ls [.int (f_X2_chargeOf x1 x2 (f_X6_zoneNow x2 pS bZ bQ) (f_X2_kilosOf x1 rK) rL rG bA bB bP)]) rfl ?_
      exact fi 46 _ (f_X2_chargeOf x1 x2 (f_X6_zoneNow x2 pS bZ bQ) (f_X2_kilosOf x1 rK) rL rG bA bB bP) .int rfl rfl dX6_charge_46 (by rw [f_X6_charge, if_neg c_1, if_neg c_2])
    · rw [if_pos c_2] at hk
      refine lv_iconst (v := (-1)) hx hb dX6_charge_22 (by decide) ?_
      exact fi 23 _ (-1) .int rfl rfl dX6_charge_23 (by rw [f_X6_charge, if_neg c_1, if_pos c_2])

def f_X6_cheapest (x1 : Int32) (rK : Nat → Int32) (rL : Nat → Int32) (rG : Nat → Int32) (pS : Nat → Int32) (bA : Nat → Int32) (bB : Nat → Int32) (bZ : Nat → Int32) (bP : Nat → Int32) (bQ : Nat → Int32) (bC : Int32) (bM : Int32) : Int32 := (if (f_X0_hasSet x1 bM) = 0 then (-1) else (if 0 ≤ (f_X2_leastOffer x1 (f_X2_zonesAt (f_X1_place pS) (f_X1_day pS) bZ bQ bC) rK rL rG bA bB bP bC) then (f_X2_carrierOfOffer (f_X2_leastOffer x1 (f_X2_zonesAt (f_X1_place pS) (f_X1_day pS) bZ bQ bC) rK rL rG bA bB bP bC)) else (-2)))
def k_X6_cheapest (x1 : Int32) (rK : Nat → Int32) (rL : Nat → Int32) (rG : Nat → Int32) (pS : Nat → Int32) (bA : Nat → Int32) (bB : Nat → Int32) (bZ : Nat → Int32) (bP : Nat → Int32) (bQ : Nat → Int32) (bC : Int32) (bM : Int32) : Prop := (if (f_X0_hasSet x1 bM) = 0 then True else (k_X2_zonesAt (f_X1_place pS) (f_X1_day pS) bZ bQ bC ∧ (k_X2_leastOffer x1 (f_X2_zonesAt (f_X1_place pS) (f_X1_day pS) bZ bQ bC) rK rL rG bA bB bP bC ∧ True)))
theorem hd_X6_cheapest : yX6_cheapest.cls ≠ "java/lang/invoke/MethodHandle" ∧ yX6_cheapest.cls ≠ "java/lang/invoke/VarHandle" ∧ (parseMethodDescriptor yX6_cheapest.desc).map (fun d => d.parameters.length) = some 1 := by decide +kernel
set_option maxHeartbeats 4000000 in
set_option maxRecDepth 100000 in
theorem c_X6_cheapest (l : Launch) (G : BGT) (q_x q_t q_b q_d q_e q_r q_s q_p q_bA q_bB q_bZ q_bG q_bP q_bQ q_rK q_rL q_rG q_pS q_pE : Nat) (xF : Int32) (bC : Int32) (bM : Int32) (bL : Int32) (bD : Int32) (bA : Nat → Int32) (bB : Nat → Int32) (bZ : Nat → Int32) (bP : Nat → Int32) (bQ : Nat → Int32) (rK : Nat → Int32) (rL : Nat → Int32) (rG : Nat → Int32) (pN : Int32) (pK : Int32) (pS : Nat → Int32) (x1 : Int32) (hk : k_X6_cheapest x1 rK rL rG pS bA bB bZ bP bQ bC bM) : RO l yX6_cheapest wsX6_cheapest 5 G [oX6 q_x q_t q_b q_d q_e q_r q_s q_p xF, oX0 q_b q_bA q_bB q_bZ q_bG q_bP q_bQ bC bM bL bD, aI G q_bA 18 bA, aI G q_bB 60 bB, aI G q_bZ 45 bZ, aI G q_bP 3 bP, aI G q_bQ 3 bQ, oX2 q_r q_b q_rK q_rL q_rG, aI G q_rK 256 rK, aI G q_rL 256 rL, aI G q_rG 3 rG, oX1 q_p q_pS q_pE pN pK, aI G q_pS 26 pS] [.ref q_x, .int x1] (some (.int (f_X6_cheapest x1 rK rL rG pS bA bB bZ bP bQ bC bM))) := by
  refine RO.ofW (cc := cX6_cheapest) (maxL := 3) (ret := (some .int)) (C := RX6) (by decide) rfl rfl (Nat.le_of_ble_eq_true rfl) ?_
  intro p e s m args below meth c Q ls hx hb hml hts hown hP hB hl fi fl fv
  have hS : va_S (fun _ => False) s.heap s.heap [] := va_S.rf
  have hl : lv_has ls 3 [(0, .ref q_x), (1, .int x1)] := hl
  have t_0 := hts (.fieldLink RX6 19 "ParcelSplit" "book" "LParcelSplit$Book;") (by decide +kernel)
  have t_1 := hts (.fieldLink RX6 40 "ParcelSplit" "prices" "LParcelSplit$Prices;") (by decide +kernel)
  have t_2 := hts (.fieldLink RX6 56 "ParcelSplit" "plan" "LParcelSplit$Plan;") (by decide +kernel)
  have i_X6 : ∀ w ∈ wsX60, w ∈ wsX6_cheapest := by decide +kernel
  rw [k_X6_cheapest] at hk
  refine lv_aload_n hx hb dX6_cheapest_0 rfl (lv_at hl 0 rfl) ?_
  refine va_get (D := gD G) (ci := 6) (v := .ref q_b) (C := RX6) (T := TX6) (N := 8) hx hb hts i_X6 hown hB.1 hP 0 rfl rfl 1 (by decide) t_0 (fun _ h9 => h9) rfl dX6_cheapest_1 ?_
  refine lv_iload_n hx hb dX6_cheapest_4 rfl (lv_at hl 1 rfl) ?_
  refine ro_V (ci := 0) (q0 := 1) (As := [.int x1]) (rest := []) (c_X0_hasSet l G q_b q_bA q_bB q_bZ q_bG q_bP q_bQ bC bM bL bD x1) [1] rfl rfl rfl rfl gX6_cheapest_X0_hasSet ⟨_, rfl⟩ hd_X0_hasSet rfl dX6_cheapest_5 rfl rfl (Nat.le_of_ble_eq_true rfl) ⟨Nat.le_of_ble_eq_true rfl, Nat.le_of_ble_eq_true rfl⟩ ⟨Nat.le_refl 0, Nat.le_refl 0⟩ hx hb hml hown hts hB hS hP hl.1 ?_
  refine W.eq (g2 := F0 m 8 ls [.int (f_X0_hasSet x1 bM)]) rfl ?_
  refine lv_if_ne (tgt := 13) hx hb dX6_cheapest_8 (by decide) (fun c_1 => ?_) (fun c_1 => ?_)
  · rw [if_neg c_1] at hk
    refine lv_aload_n hx hb dX6_cheapest_13 rfl (lv_at hl 0 rfl) ?_
    refine va_get (D := gD G) (ci := 6) (v := .ref q_r) (C := RX6) (T := TX6) (N := 8) hx hb hts i_X6 hown hB.1 hP 0 rfl rfl 4 (by decide) t_1 (fun _ h9 => h9) rfl dX6_cheapest_14 ?_
    refine lv_iload_n hx hb dX6_cheapest_17 rfl (lv_at hl 1 rfl) ?_
    refine lv_aload_n hx hb dX6_cheapest_18 rfl (lv_at hl 0 rfl) ?_
    refine va_get (D := gD G) (ci := 6) (v := .ref q_r) (C := RX6) (T := TX6) (N := 8) hx hb hts i_X6 hown hB.1 hP 0 rfl rfl 4 (by decide) t_1 (fun _ h9 => h9) rfl dX6_cheapest_19 ?_
    refine lv_aload_n hx hb dX6_cheapest_22 rfl (lv_at hl 0 rfl) ?_
    refine va_get (D := gD G) (ci := 6) (v := .ref q_p) (C := RX6) (T := TX6) (N := 8) hx hb hts i_X6 hown hB.1 hP 0 rfl rfl 6 (by decide) t_2 (fun _ h9 => h9) rfl dX6_cheapest_23 ?_
    refine ro_V (ci := 1) (q0 := 11) (As := []) (rest := [.ref q_r, .int x1, .ref q_r]) (c_X1_place l G q_p q_pS q_pE pN pK pS) [11, 12] rfl rfl rfl rfl gX6_cheapest_X1_place ⟨_, rfl⟩ hd_X1_place rfl dX6_cheapest_26 rfl rfl (Nat.le_of_ble_eq_true rfl) ⟨Nat.le_of_ble_eq_true rfl, Nat.le_of_ble_eq_true rfl⟩ ⟨Nat.le_refl 0, Nat.le_refl 0⟩ hx hb hml hown hts hB hS hP hl.1 ?_
    refine W.eq (g2 := F0 m 29 ls [.int (f_X1_place pS), .ref q_r, .int x1, .ref q_r]) rfl ?_
    refine lv_aload_n hx hb dX6_cheapest_29 rfl (lv_at hl 0 rfl) ?_
    refine va_get (D := gD G) (ci := 6) (v := .ref q_p) (C := RX6) (T := TX6) (N := 8) hx hb hts i_X6 hown hB.1 hP 0 rfl rfl 6 (by decide) t_2 (fun _ h9 => h9) rfl dX6_cheapest_30 ?_
    refine ro_V (ci := 1) (q0 := 11) (As := []) (rest := [.int (f_X1_place pS), .ref q_r, .int x1, .ref q_r]) (c_X1_day l G q_p q_pS q_pE pN pK pS) [11, 12] rfl rfl rfl rfl gX6_cheapest_X1_day ⟨_, rfl⟩ hd_X1_day rfl dX6_cheapest_33 rfl rfl (Nat.le_of_ble_eq_true rfl) ⟨Nat.le_of_ble_eq_true rfl, Nat.le_of_ble_eq_true rfl⟩ ⟨Nat.le_refl 0, Nat.le_refl 0⟩ hx hb hml hown hts hB hS hP hl.1 ?_
    refine W.eq (g2 := F0 m 36 ls [.int (f_X1_day pS), .int (f_X1_place pS), .ref q_r, .int x1, .ref q_r]) rfl ?_
    obtain ⟨o_2, hk⟩ := hk
    refine ro_V (ci := 2) (q0 := 7) (As := [.int (f_X1_place pS), .int (f_X1_day pS)]) (rest := [.int x1, .ref q_r]) (c_X2_zonesAt l G q_b q_bA q_bB q_bZ q_bG q_bP q_bQ q_r q_rK q_rL q_rG bC bM bL bD bZ bQ (f_X1_place pS) (f_X1_day pS) o_2) [1, 4, 6, 7] rfl rfl rfl rfl gX6_cheapest_X2_zonesAt ⟨_, rfl⟩ hd_X2_zonesAt rfl dX6_cheapest_36 rfl rfl (Nat.le_of_ble_eq_true rfl) ⟨Nat.le_of_ble_eq_true rfl, Nat.le_of_ble_eq_true rfl⟩ ⟨Nat.le_refl 0, Nat.le_refl 0⟩ hx hb hml hown hts hB hS hP hl.1 ?_
    refine W.eq (g2 := F0 m 39 ls [.int (f_X2_zonesAt (f_X1_place pS) (f_X1_day pS) bZ bQ bC), .int x1, .ref q_r]) rfl ?_
    obtain ⟨o_3, hk⟩ := hk
    refine ro_V (ci := 2) (q0 := 7) (As := [.int x1, .int (f_X2_zonesAt (f_X1_place pS) (f_X1_day pS) bZ bQ bC)]) (rest := []) (c_X2_leastOffer l G q_b q_bA q_bB q_bZ q_bG q_bP q_bQ q_r q_rK q_rL q_rG bC bM bL bD bA bB bP rK rL rG x1 (f_X2_zonesAt (f_X1_place pS) (f_X1_day pS) bZ bQ bC) o_3) [1, 2, 3, 5, 7, 8, 9, 10] rfl rfl rfl rfl gX6_cheapest_X2_leastOffer ⟨_, rfl⟩ hd_X2_leastOffer rfl dX6_cheapest_39 rfl rfl (Nat.le_of_ble_eq_true rfl) ⟨Nat.le_of_ble_eq_true rfl, Nat.le_of_ble_eq_true rfl⟩ ⟨Nat.le_refl 0, Nat.le_refl 0⟩ hx hb hml hown hts hB hS hP hl.1 ?_
    refine W.eq (g2 := F0 m 42 ls [.int (f_X2_leastOffer x1 (f_X2_zonesAt (f_X1_place pS) (f_X1_day pS) bZ bQ bC) rK rL rG bA bB bP bC)]) rfl ?_
    refine lv_istore_n (lv' := [(2, .int (f_X2_leastOffer x1 (f_X2_zonesAt (f_X1_place pS) (f_X1_day pS) bZ bQ bC) rK rL rG bA bB bP bC)), (0, .ref q_x), (1, .int x1)]) hx hb dX6_cheapest_42 rfl hl (by decide) rfl (fun ls hl => ?_)
    refine lv_iload_n hx hb dX6_cheapest_43 rfl (lv_at hl 0 rfl) ?_
    refine lv_if_ge (tgt := 52) hx hb dX6_cheapest_44 (by decide) (fun c_4 => ?_) (fun c_4 => ?_)
    · refine lv_iload_n hx hb dX6_cheapest_52 rfl (lv_at hl 0 rfl) ?_
      refine ro_S (As := [.int (f_X2_leastOffer x1 (f_X2_zonesAt (f_X1_place pS) (f_X1_day pS) bZ bQ bC) rK rL rG bA bB bP bC)]) (rest := []) (c_X2_carrierOfOffer l G (f_X2_leastOffer x1 (f_X2_zonesAt (f_X1_place pS) (f_X1_day pS) bZ bQ bC) rK rL rG bA bB bP bC)) [] rfl gX6_cheapest_X2_carrierOfOffer ⟨_, rfl⟩ hd_X2_carrierOfOffer dX6_cheapest_53 rfl rfl (Nat.le_of_ble_eq_true rfl) ⟨Nat.le_of_ble_eq_true rfl, Nat.le_of_ble_eq_true rfl⟩ ⟨Nat.le_refl 0, Nat.le_refl 0⟩ hx hb hml hown hts hB hS hP hl.1 ?_
      refine W.eq (g2 := F0 m 56 ls [.int (f_X2_carrierOfOffer (f_X2_leastOffer x1 (f_X2_zonesAt (f_X1_place pS) (f_X1_day pS) bZ bQ bC) rK rL rG bA bB bP bC))]) rfl ?_
      exact fi 56 _ (f_X2_carrierOfOffer (f_X2_leastOffer x1 (f_X2_zonesAt (f_X1_place pS) (f_X1_day pS) bZ bQ bC) rK rL rG bA bB bP bC)) .int rfl rfl dX6_cheapest_56 (by rw [f_X6_cheapest, if_neg c_1, if_pos c_4])
    · refine lv_bipush (v := (-2)) hx hb dX6_cheapest_47 (by decide) ?_
      refine lv_goto (tgt := 56) hx hb dX6_cheapest_49 (by decide) ?_
      exact fi 56 _ (-2) .int rfl rfl dX6_cheapest_56 (by rw [f_X6_cheapest, if_neg c_1, if_neg c_4])
  · rw [if_pos c_1] at hk
    refine lv_iconst (v := (-1)) hx hb dX6_cheapest_11 (by decide) ?_
    exact fi 12 _ (-1) .int rfl rfl dX6_cheapest_12 (by rw [f_X6_cheapest, if_pos c_1])

def f_X6_least (rK : Nat → Int32) (rL : Nat → Int32) (rG : Nat → Int32) (sZ : Nat → Int32) (sR : Nat → Int64) (sO : Nat → Int32) (sL : Nat → Int32) (sW : Nat → Int64) (sU : Nat → Int64) (pS : Nat → Int32) (bA : Nat → Int32) (bB : Nat → Int32) (bZ : Nat → Int32) (bP : Nat → Int32) (bQ : Nat → Int32) (bC : Int32) (bM : Int32) : Int32 × (Nat → Int32) × (Nat → Int64) × (Nat → Int32) × (Nat → Int32) × (Nat → Int64) := (((f_X4_leastCharge (f_X1_place pS) (f_X1_day pS) rK rL rG sZ sR sO sL sW sU bA bB bZ bP bQ bC bM).1), ((f_X4_leastCharge (f_X1_place pS) (f_X1_day pS) rK rL rG sZ sR sO sL sW sU bA bB bZ bP bQ bC bM).2.1), ((f_X4_leastCharge (f_X1_place pS) (f_X1_day pS) rK rL rG sZ sR sO sL sW sU bA bB bZ bP bQ bC bM).2.2.1), ((f_X4_leastCharge (f_X1_place pS) (f_X1_day pS) rK rL rG sZ sR sO sL sW sU bA bB bZ bP bQ bC bM).2.2.2.1), ((f_X4_leastCharge (f_X1_place pS) (f_X1_day pS) rK rL rG sZ sR sO sL sW sU bA bB bZ bP bQ bC bM).2.2.2.2.1), ((f_X4_leastCharge (f_X1_place pS) (f_X1_day pS) rK rL rG sZ sR sO sL sW sU bA bB bZ bP bQ bC bM).2.2.2.2.2))
def k_X6_least (rK : Nat → Int32) (rL : Nat → Int32) (rG : Nat → Int32) (sZ : Nat → Int32) (sO : Nat → Int32) (sL : Nat → Int32) (sW : Nat → Int64) (sU : Nat → Int64) (pS : Nat → Int32) (bA : Nat → Int32) (bB : Nat → Int32) (bZ : Nat → Int32) (bP : Nat → Int32) (bQ : Nat → Int32) (bC : Int32) (bM : Int32) : Prop := (k_X4_leastCharge (f_X1_place pS) (f_X1_day pS) rK rL rG sZ sO sL sW sU bA bB bZ bP bQ bC bM ∧ True)
theorem hd_X6_least : yX6_least.cls ≠ "java/lang/invoke/MethodHandle" ∧ yX6_least.cls ≠ "java/lang/invoke/VarHandle" ∧ (parseMethodDescriptor yX6_least.desc).map (fun d => d.parameters.length) = some 0 := by decide +kernel
set_option maxHeartbeats 4000000 in
set_option maxRecDepth 100000 in
theorem c_X6_least (l : Launch) (G : BGT) (q_x q_t q_b q_d q_e q_r q_s q_p q_bA q_bB q_bZ q_bG q_bP q_bQ q_rK q_rL q_rG q_sZ q_sR q_sO q_sL q_sW q_sU q_pS q_pE : Nat) (xF : Int32) (bC : Int32) (bM : Int32) (bL : Int32) (bD : Int32) (bA : Nat → Int32) (bB : Nat → Int32) (bZ : Nat → Int32) (bP : Nat → Int32) (bQ : Nat → Int32) (rK : Nat → Int32) (rL : Nat → Int32) (rG : Nat → Int32) (sZ : Nat → Int32) (sR : Nat → Int64) (sO : Nat → Int32) (sL : Nat → Int32) (sW : Nat → Int64) (sU : Nat → Int64) (pN : Int32) (pK : Int32) (pS : Nat → Int32) (hk : k_X6_least rK rL rG sZ sO sL sW sU pS bA bB bZ bP bQ bC bM) : WR l yX6_least wsX6_least 7 G [oX6 q_x q_t q_b q_d q_e q_r q_s q_p xF, oX0 q_b q_bA q_bB q_bZ q_bG q_bP q_bQ bC bM bL bD, aI G q_bA 18 bA, aI G q_bB 60 bB, aI G q_bZ 45 bZ, aI G q_bP 3 bP, aI G q_bQ 3 bQ, oX2 q_r q_b q_rK q_rL q_rG, aI G q_rK 256 rK, aI G q_rL 256 rL, aI G q_rG 3 rG, oX4 q_s q_b q_r q_sZ q_sR q_sO q_sL q_sW q_sU, aI G q_sZ 64 sZ, aJ G q_sR 64 sR, aI G q_sO 256 sO, aI G q_sL 256 sL, aJ G q_sW 256 sW, aJ G q_sU 256 sU, oX1 q_p q_pS q_pE pN pK, aI G q_pS 26 pS] [oX6 q_x q_t q_b q_d q_e q_r q_s q_p xF, oX0 q_b q_bA q_bB q_bZ q_bG q_bP q_bQ bC bM bL bD, aI G q_bA 18 bA, aI G q_bB 60 bB, aI G q_bZ 45 bZ, aI G q_bP 3 bP, aI G q_bQ 3 bQ, oX2 q_r q_b q_rK q_rL q_rG, aI G q_rK 256 rK, aI G q_rL 256 rL, aI G q_rG 3 rG, oX4 q_s q_b q_r q_sZ q_sR q_sO q_sL q_sW q_sU, aI G q_sZ 64 ((f_X6_least rK rL rG sZ sR sO sL sW sU pS bA bB bZ bP bQ bC bM).2.1), aJ G q_sR 64 ((f_X6_least rK rL rG sZ sR sO sL sW sU pS bA bB bZ bP bQ bC bM).2.2.1), aI G q_sO 256 ((f_X6_least rK rL rG sZ sR sO sL sW sU pS bA bB bZ bP bQ bC bM).2.2.2.1), aI G q_sL 256 ((f_X6_least rK rL rG sZ sR sO sL sW sU pS bA bB bZ bP bQ bC bM).2.2.2.2.1), aJ G q_sW 256 ((f_X6_least rK rL rG sZ sR sO sL sW sU pS bA bB bZ bP bQ bC bM).2.2.2.2.2), aJ G q_sU 256 sU, oX1 q_p q_pS q_pE pN pK, aI G q_pS 26 pS] [.ref q_x] (some (.int ((f_X6_least rK rL rG sZ sR sO sL sW sU pS bA bB bZ bP bQ bC bM).1))) := by
  refine WR.ofW (cc := cX6_least) (maxL := 1) (ret := (some .int)) (C := RX6) (by decide) rfl rfl (Nat.le_of_ble_eq_true rfl) ?_
  intro p e s m args below meth c Q ls A hx hb hml hts hown hP hD hS hA hB hl fi fv
  have hl : lv_has ls 1 [(0, .ref q_x)] := hl
  have t_0 := hts (.fieldLink RX6 49 "ParcelSplit" "splitter" "LParcelSplit$Splitter;") (by decide +kernel)
  have t_1 := hts (.fieldLink RX6 56 "ParcelSplit" "plan" "LParcelSplit$Plan;") (by decide +kernel)
  have i_X6 : ∀ w ∈ wsX60, w ∈ wsX6_least := by decide +kernel
  rw [k_X6_least] at hk
  refine lv_aload_n hx hb dX6_least_0 rfl (lv_at hl 0 rfl) ?_
  refine va_get (D := gD G) (ci := 6) (v := .ref q_s) (C := RX6) (T := TX6) (N := 8) hx hb hts i_X6 hown hB.1 hP 0 rfl rfl 5 (by decide) t_0 (fun _ h9 => h9) rfl dX6_least_1 ?_
  refine lv_aload_n hx hb dX6_least_4 rfl (lv_at hl 0 rfl) ?_
  refine va_get (D := gD G) (ci := 6) (v := .ref q_p) (C := RX6) (T := TX6) (N := 8) hx hb hts i_X6 hown hB.1 hP 0 rfl rfl 6 (by decide) t_1 (fun _ h9 => h9) rfl dX6_least_5 ?_
  refine ro_V (ci := 1) (q0 := 18) (As := []) (rest := [.ref q_s]) (c_X1_place l G q_p q_pS q_pE pN pK pS) [18, 19] rfl rfl rfl rfl gX6_least_X1_place ⟨_, rfl⟩ hd_X1_place rfl dX6_least_8 rfl rfl (Nat.le_of_ble_eq_true rfl) ⟨Nat.le_of_ble_eq_true rfl, Nat.le_of_ble_eq_true rfl⟩ ⟨Nat.le_refl 0, Nat.le_refl 0⟩ hx hb hml hown hts hB hS hP hl.1 ?_
  refine W.eq (g2 := F0 m 11 ls [.int (f_X1_place pS), .ref q_s]) rfl ?_
  refine lv_aload_n hx hb dX6_least_11 rfl (lv_at hl 0 rfl) ?_
  refine va_get (D := gD G) (ci := 6) (v := .ref q_p) (C := RX6) (T := TX6) (N := 8) hx hb hts i_X6 hown hB.1 hP 0 rfl rfl 6 (by decide) t_1 (fun _ h9 => h9) rfl dX6_least_12 ?_
  refine ro_V (ci := 1) (q0 := 18) (As := []) (rest := [.int (f_X1_place pS), .ref q_s]) (c_X1_day l G q_p q_pS q_pE pN pK pS) [18, 19] rfl rfl rfl rfl gX6_least_X1_day ⟨_, rfl⟩ hd_X1_day rfl dX6_least_15 rfl rfl (Nat.le_of_ble_eq_true rfl) ⟨Nat.le_of_ble_eq_true rfl, Nat.le_of_ble_eq_true rfl⟩ ⟨Nat.le_refl 0, Nat.le_refl 0⟩ hx hb hml hown hts hB hS hP hl.1 ?_
  refine W.eq (g2 := F0 m 18 ls [.int (f_X1_day pS), .int (f_X1_place pS), .ref q_s]) rfl ?_
  obtain ⟨o_1, hk⟩ := hk
  refine wr_V (ci := 4) (q0 := 11) (As := [.int (f_X1_place pS), .int (f_X1_day pS)]) (rest := []) (wr := [oX6 q_x q_t q_b q_d q_e q_r q_s q_p xF, oX1 q_p q_pS q_pE pN pK, aI G q_pS 26 pS]) (wf := [oX6 q_x q_t q_b q_d q_e q_r q_s q_p xF, oX0 q_b q_bA q_bB q_bZ q_bG q_bP q_bQ bC bM bL bD, aI G q_bA 18 bA, aI G q_bB 60 bB, aI G q_bZ 45 bZ, aI G q_bP 3 bP, aI G q_bQ 3 bQ, oX2 q_r q_b q_rK q_rL q_rG, aI G q_rK 256 rK, aI G q_rL 256 rL, aI G q_rG 3 rG, oX4 q_s q_b q_r q_sZ q_sR q_sO q_sL q_sW q_sU, aI G q_sZ 64 ((f_X4_leastCharge (f_X1_place pS) (f_X1_day pS) rK rL rG sZ sR sO sL sW sU bA bB bZ bP bQ bC bM).2.1), aJ G q_sR 64 ((f_X4_leastCharge (f_X1_place pS) (f_X1_day pS) rK rL rG sZ sR sO sL sW sU bA bB bZ bP bQ bC bM).2.2.1), aI G q_sO 256 ((f_X4_leastCharge (f_X1_place pS) (f_X1_day pS) rK rL rG sZ sR sO sL sW sU bA bB bZ bP bQ bC bM).2.2.2.1), aI G q_sL 256 ((f_X4_leastCharge (f_X1_place pS) (f_X1_day pS) rK rL rG sZ sR sO sL sW sU bA bB bZ bP bQ bC bM).2.2.2.2.1), aJ G q_sW 256 ((f_X4_leastCharge (f_X1_place pS) (f_X1_day pS) rK rL rG sZ sR sO sL sW sU bA bB bZ bP bQ bC bM).2.2.2.2.2), aJ G q_sU 256 sU, oX1 q_p q_pS q_pE pN pK, aI G q_pS 26 pS]) (c_X4_leastCharge l G q_b q_bA q_bB q_bZ q_bG q_bP q_bQ q_r q_rK q_rL q_rG q_s q_sZ q_sR q_sO q_sL q_sW q_sU bC bM bL bD bA bB bZ bP bQ rK rL rG sZ sR sO sL sW sU (f_X1_place pS) (f_X1_day pS) o_1) [1, 2, 3, 4, 5, 6, 7, 8, 9, 10, 11, 12, 13, 14, 15, 16, 17] [0, 18, 19] [0, 3, 4, 5, 6, 7, 8, 9, 10, 11, 12, 13, 14, 15, 16, 17, 18, 19, 1, 2] rfl rfl rfl (by decide) rfl rfl rfl gX6_least_X4_leastCharge ⟨_, rfl⟩ hd_X4_leastCharge rfl dX6_least_18 rfl rfl (Nat.le_of_ble_eq_true rfl) ⟨Nat.le_of_ble_eq_true rfl, Nat.le_of_ble_eq_true rfl⟩ ⟨Nat.le_refl 0, Nat.le_refl 0⟩ hx hb hml hown hts hB hD hS hA hP hl.1 (fun H locs hP hD hS => ?_)
  refine W.eq (g2 := F0 m 21 ls [.int ((f_X4_leastCharge (f_X1_place pS) (f_X1_day pS) rK rL rG sZ sR sO sL sW sU bA bB bZ bP bQ bC bM).1)]) rfl ?_
  have e9 : f_X6_least rK rL rG sZ sR sO sL sW sU pS bA bB bZ bP bQ bC bM = (((f_X4_leastCharge (f_X1_place pS) (f_X1_day pS) rK rL rG sZ sR sO sL sW sU bA bB bZ bP bQ bC bM).1), ((f_X4_leastCharge (f_X1_place pS) (f_X1_day pS) rK rL rG sZ sR sO sL sW sU bA bB bZ bP bQ bC bM).2.1), ((f_X4_leastCharge (f_X1_place pS) (f_X1_day pS) rK rL rG sZ sR sO sL sW sU bA bB bZ bP bQ bC bM).2.2.1), ((f_X4_leastCharge (f_X1_place pS) (f_X1_day pS) rK rL rG sZ sR sO sL sW sU bA bB bZ bP bQ bC bM).2.2.2.1), ((f_X4_leastCharge (f_X1_place pS) (f_X1_day pS) rK rL rG sZ sR sO sL sW sU bA bB bZ bP bQ bC bM).2.2.2.2.1), ((f_X4_leastCharge (f_X1_place pS) (f_X1_day pS) rK rL rG sZ sR sO sL sW sU bA bB bZ bP bQ bC bM).2.2.2.2.2)) := by rw [f_X6_least]
  exact fi 21 _ ((f_X4_leastCharge (f_X1_place pS) (f_X1_day pS) rK rL rG sZ sR sO sL sW sU bA bB bZ bP bQ bC bM).1) .int _ _ rfl rfl dX6_least_21 (by simp only [e9]) (by rw [e9]; exact hP) (by rw [e9]; exact hD) hS

def f_X6_split_L71 (x1 : Int32) (x2 : Int32) (v3 : Int64) (w_sZ : Nat → Int32) (w_sR : Nat → Int64) (w_sO : Nat → Int32) (w_sL : Nat → Int32) (w_sW : Nat → Int64) : Int32 × (Nat → Int32) × (Nat → Int64) × (Nat → Int32) × (Nat → Int32) × (Nat → Int64) := (if x2 = 0 then ((f_X4_parcelIn v3 x1), w_sZ, w_sR, w_sO, w_sL, w_sW) else ((f_X4_carrierIn v3 x1), w_sZ, w_sR, w_sO, w_sL, w_sW))
def k_X6_split_L71 (v3 : Int64) (w_sZ : Nat → Int32) (w_sR : Nat → Int64) (w_sO : Nat → Int32) (w_sL : Nat → Int32) (w_sW : Nat → Int64) : Prop := True
def f_X6_split (x1 : Int32) (x2 : Int32) (rK : Nat → Int32) (rL : Nat → Int32) (rG : Nat → Int32) (sZ : Nat → Int32) (sR : Nat → Int64) (sO : Nat → Int32) (sL : Nat → Int32) (sW : Nat → Int64) (sU : Nat → Int64) (pS : Nat → Int32) (bA : Nat → Int32) (bB : Nat → Int32) (bZ : Nat → Int32) (bP : Nat → Int32) (bQ : Nat → Int32) (bC : Int32) (bM : Int32) : Int32 × (Nat → Int32) × (Nat → Int64) × (Nat → Int32) × (Nat → Int32) × (Nat → Int64) := (if (f_X0_hasGood x1 bM) = 0 then ((-1), sZ, sR, sO, sL, sW) else (if x2 < 0 then ((-1), sZ, sR, sO, sL, sW) else (if x2 ≤ 1 then (if 0 ≤ ((f_X4_leastCharge (f_X1_place pS) (f_X1_day pS) rK rL rG sZ sR sO sL sW sU bA bB bZ bP bQ bC bM).1) then f_X6_split_L71 x1 x2 (f_X4_leastRow (f_X1_place pS) (f_X1_day pS) ((f_X4_leastCharge (f_X1_place pS) (f_X1_day pS) rK rL rG sZ sR sO sL sW sU bA bB bZ bP bQ bC bM).2.2.1) bZ bQ bC) ((f_X4_leastCharge (f_X1_place pS) (f_X1_day pS) rK rL rG sZ sR sO sL sW sU bA bB bZ bP bQ bC bM).2.1) ((f_X4_leastCharge (f_X1_place pS) (f_X1_day pS) rK rL rG sZ sR sO sL sW sU bA bB bZ bP bQ bC bM).2.2.1) ((f_X4_leastCharge (f_X1_place pS) (f_X1_day pS) rK rL rG sZ sR sO sL sW sU bA bB bZ bP bQ bC bM).2.2.2.1) ((f_X4_leastCharge (f_X1_place pS) (f_X1_day pS) rK rL rG sZ sR sO sL sW sU bA bB bZ bP bQ bC bM).2.2.2.2.1) ((f_X4_leastCharge (f_X1_place pS) (f_X1_day pS) rK rL rG sZ sR sO sL sW sU bA bB bZ bP bQ bC bM).2.2.2.2.2) else ((-2), ((f_X4_leastCharge (f_X1_place pS) (f_X1_day pS) rK rL rG sZ sR sO sL sW sU bA bB bZ bP bQ bC bM).2.1), ((f_X4_leastCharge (f_X1_place pS) (f_X1_day pS) rK rL rG sZ sR sO sL sW sU bA bB bZ bP bQ bC bM).2.2.1), ((f_X4_leastCharge (f_X1_place pS) (f_X1_day pS) rK rL rG sZ sR sO sL sW sU bA bB bZ bP bQ bC bM).2.2.2.1), ((f_X4_leastCharge (f_X1_place pS) (f_X1_day pS) rK rL rG sZ sR sO sL sW sU bA bB bZ bP bQ bC bM).2.2.2.2.1), ((f_X4_leastCharge (f_X1_place pS) (f_X1_day pS) rK rL rG sZ sR sO sL sW sU bA bB bZ bP bQ bC bM).2.2.2.2.2))) else ((-1), sZ, sR, sO, sL, sW))))
def k_X6_split (x1 : Int32) (x2 : Int32) (rK : Nat → Int32) (rL : Nat → Int32) (rG : Nat → Int32) (sZ : Nat → Int32) (sR : Nat → Int64) (sO : Nat → Int32) (sL : Nat → Int32) (sW : Nat → Int64) (sU : Nat → Int64) (pS : Nat → Int32) (bA : Nat → Int32) (bB : Nat → Int32) (bZ : Nat → Int32) (bP : Nat → Int32) (bQ : Nat → Int32) (bC : Int32) (bM : Int32) : Prop := (if (f_X0_hasGood x1 bM) = 0 then True else (if x2 < 0 then True else (if x2 ≤ 1 then (k_X4_leastCharge (f_X1_place pS) (f_X1_day pS) rK rL rG sZ sO sL sW sU bA bB bZ bP bQ bC bM ∧ (if 0 ≤ ((f_X4_leastCharge (f_X1_place pS) (f_X1_day pS) rK rL rG sZ sR sO sL sW sU bA bB bZ bP bQ bC bM).1) then (k_X4_leastRow (f_X1_place pS) (f_X1_day pS) bZ bQ bC ∧ k_X6_split_L71  (f_X4_leastRow (f_X1_place pS) (f_X1_day pS) ((f_X4_leastCharge (f_X1_place pS) (f_X1_day pS) rK rL rG sZ sR sO sL sW sU bA bB bZ bP bQ bC bM).2.2.1) bZ bQ bC) ((f_X4_leastCharge (f_X1_place pS) (f_X1_day pS) rK rL rG sZ sR sO sL sW sU bA bB bZ bP bQ bC bM).2.1) ((f_X4_leastCharge (f_X1_place pS) (f_X1_day pS) rK rL rG sZ sR sO sL sW sU bA bB bZ bP bQ bC bM).2.2.1) ((f_X4_leastCharge (f_X1_place pS) (f_X1_day pS) rK rL rG sZ sR sO sL sW sU bA bB bZ bP bQ bC bM).2.2.2.1) ((f_X4_leastCharge (f_X1_place pS) (f_X1_day pS) rK rL rG sZ sR sO sL sW sU bA bB bZ bP bQ bC bM).2.2.2.2.1) ((f_X4_leastCharge (f_X1_place pS) (f_X1_day pS) rK rL rG sZ sR sO sL sW sU bA bB bZ bP bQ bC bM).2.2.2.2.2)) else True)) else True)))
theorem hd_X6_split : yX6_split.cls ≠ "java/lang/invoke/MethodHandle" ∧ yX6_split.cls ≠ "java/lang/invoke/VarHandle" ∧ (parseMethodDescriptor yX6_split.desc).map (fun d => d.parameters.length) = some 2 := by decide +kernel
set_option maxHeartbeats 4000000 in
set_option maxRecDepth 100000 in
theorem c_X6_split (l : Launch) (G : BGT) (q_x q_t q_b q_d q_e q_r q_s q_p q_bA q_bB q_bZ q_bG q_bP q_bQ q_rK q_rL q_rG q_sZ q_sR q_sO q_sL q_sW q_sU q_pS q_pE : Nat) (xF : Int32) (bC : Int32) (bM : Int32) (bL : Int32) (bD : Int32) (bA : Nat → Int32) (bB : Nat → Int32) (bZ : Nat → Int32) (bP : Nat → Int32) (bQ : Nat → Int32) (rK : Nat → Int32) (rL : Nat → Int32) (rG : Nat → Int32) (sZ : Nat → Int32) (sR : Nat → Int64) (sO : Nat → Int32) (sL : Nat → Int32) (sW : Nat → Int64) (sU : Nat → Int64) (pN : Int32) (pK : Int32) (pS : Nat → Int32) (x1 : Int32) (x2 : Int32) (hk : k_X6_split x1 x2 rK rL rG sZ sR sO sL sW sU pS bA bB bZ bP bQ bC bM) : WR l yX6_split wsX6_split 7 G [oX6 q_x q_t q_b q_d q_e q_r q_s q_p xF, oX0 q_b q_bA q_bB q_bZ q_bG q_bP q_bQ bC bM bL bD, aI G q_bA 18 bA, aI G q_bB 60 bB, aI G q_bZ 45 bZ, aI G q_bP 3 bP, aI G q_bQ 3 bQ, oX2 q_r q_b q_rK q_rL q_rG, aI G q_rK 256 rK, aI G q_rL 256 rL, aI G q_rG 3 rG, oX4 q_s q_b q_r q_sZ q_sR q_sO q_sL q_sW q_sU, aI G q_sZ 64 sZ, aJ G q_sR 64 sR, aI G q_sO 256 sO, aI G q_sL 256 sL, aJ G q_sW 256 sW, aJ G q_sU 256 sU, oX1 q_p q_pS q_pE pN pK, aI G q_pS 26 pS] [oX6 q_x q_t q_b q_d q_e q_r q_s q_p xF, oX0 q_b q_bA q_bB q_bZ q_bG q_bP q_bQ bC bM bL bD, aI G q_bA 18 bA, aI G q_bB 60 bB, aI G q_bZ 45 bZ, aI G q_bP 3 bP, aI G q_bQ 3 bQ, oX2 q_r q_b q_rK q_rL q_rG, aI G q_rK 256 rK, aI G q_rL 256 rL, aI G q_rG 3 rG, oX4 q_s q_b q_r q_sZ q_sR q_sO q_sL q_sW q_sU, aI G q_sZ 64 ((f_X6_split x1 x2 rK rL rG sZ sR sO sL sW sU pS bA bB bZ bP bQ bC bM).2.1), aJ G q_sR 64 ((f_X6_split x1 x2 rK rL rG sZ sR sO sL sW sU pS bA bB bZ bP bQ bC bM).2.2.1), aI G q_sO 256 ((f_X6_split x1 x2 rK rL rG sZ sR sO sL sW sU pS bA bB bZ bP bQ bC bM).2.2.2.1), aI G q_sL 256 ((f_X6_split x1 x2 rK rL rG sZ sR sO sL sW sU pS bA bB bZ bP bQ bC bM).2.2.2.2.1), aJ G q_sW 256 ((f_X6_split x1 x2 rK rL rG sZ sR sO sL sW sU pS bA bB bZ bP bQ bC bM).2.2.2.2.2), aJ G q_sU 256 sU, oX1 q_p q_pS q_pE pN pK, aI G q_pS 26 pS] [.ref q_x, .int x1, .int x2] (some (.int ((f_X6_split x1 x2 rK rL rG sZ sR sO sL sW sU pS bA bB bZ bP bQ bC bM).1))) := by
  refine WR.ofW (cc := cX6_split) (maxL := 5) (ret := (some .int)) (C := RX6) (by decide) rfl rfl (Nat.le_of_ble_eq_true rfl) ?_
  intro p e s m args below meth c Q ls A hx hb hml hts hown hP hD hS hA hB hl fi fv
  have hl : lv_has ls 5 [(0, .ref q_x), (1, .int x1), (2, .int x2)] := hl
  have t_0 := hts (.fieldLink RX6 19 "ParcelSplit" "book" "LParcelSplit$Book;") (by decide +kernel)
  have t_1 := hts (.fieldLink RX6 49 "ParcelSplit" "splitter" "LParcelSplit$Splitter;") (by decide +kernel)
  have t_2 := hts (.fieldLink RX6 56 "ParcelSplit" "plan" "LParcelSplit$Plan;") (by decide +kernel)
  have i_X6 : ∀ w ∈ wsX60, w ∈ wsX6_split := by decide +kernel
  have T71 : ∀ (v3 : Int64) (w_sZ : Nat → Int32) (w_sR : Nat → Int64) (w_sO : Nat → Int32) (w_sL : Nat → Int32) (w_sW : Nat → Int64), k_X6_split_L71  v3 w_sZ w_sR w_sO w_sL w_sW → f_X6_split x1 x2 rK rL rG sZ sR sO sL sW sU pS bA bB bZ bP bQ bC bM = f_X6_split_L71 x1 x2 v3 w_sZ w_sR w_sO w_sL w_sW → ∀ (H : Heap) (locs : List Loc), va_P (gD G) vwCl [oX6 q_x q_t q_b q_d q_e q_r q_s q_p xF, oX0 q_b q_bA q_bB q_bZ q_bG q_bP q_bQ bC bM bL bD, aI G q_bA 18 bA, aI G q_bB 60 bB, aI G q_bZ 45 bZ, aI G q_bP 3 bP, aI G q_bQ 3 bQ, oX2 q_r q_b q_rK q_rL q_rG, aI G q_rK 256 rK, aI G q_rL 256 rL, aI G q_rG 3 rG, oX4 q_s q_b q_r q_sZ q_sR q_sO q_sL q_sW q_sU, aI G q_sZ 64 w_sZ, aJ G q_sR 64 w_sR, aI G q_sO 256 w_sO, aI G q_sL 256 w_sL, aJ G q_sW 256 w_sW, aJ G q_sU 256 sU, oX1 q_p q_pS q_pE pN pK, aI G q_pS 26 pS] H → va_D A [oX6 q_x q_t q_b q_d q_e q_r q_s q_p xF, oX0 q_b q_bA q_bB q_bZ q_bG q_bP q_bQ bC bM bL bD, aI G q_bA 18 bA, aI G q_bB 60 bB, aI G q_bZ 45 bZ, aI G q_bP 3 bP, aI G q_bQ 3 bQ, oX2 q_r q_b q_rK q_rL q_rG, aI G q_rK 256 rK, aI G q_rL 256 rL, aI G q_rG 3 rG, oX4 q_s q_b q_r q_sZ q_sR q_sO q_sL q_sW q_sU, aI G q_sZ 64 w_sZ, aJ G q_sR 64 w_sR, aI G q_sO 256 w_sO, aI G q_sL 256 w_sL, aJ G q_sW 256 w_sW, aJ G q_sU 256 sU, oX1 q_p q_pS q_pE pN pK, aI G q_pS 26 pS] → va_S A s.heap H locs → ∀ (ls : Array Slot), lv_has ls 5 [(1, .int x1), (2, .int x2), (3, .long v3)] → W p l e (rm 7) s m args below meth c H locs 0 0 Q (F0 m 71 ls []) := by
    intro v3 w_sZ w_sR w_sO w_sL w_sW hk hv H locs hP hD hS ls hl
    rw [k_X6_split_L71] at hk
    refine lv_iload_n hx hb dX6_split_71 rfl (lv_at hl 1 rfl) ?_
    refine lv_if_ne (tgt := 83) hx hb dX6_split_72 (by decide) (fun c_7 => ?_) (fun c_7 => ?_)
    · refine lv_lload_n hx hb dX6_split_83 rfl (lv_at hl 2 rfl) ?_
      refine lv_iload_n hx hb dX6_split_84 rfl (lv_at hl 0 rfl) ?_
      refine ro_S (As := [.long v3, .int x1]) (rest := []) (c_X4_carrierIn l G v3 x1) [] rfl gX6_split_X4_carrierIn ⟨_, rfl⟩ hd_X4_carrierIn dX6_split_85 rfl rfl (Nat.le_of_ble_eq_true rfl) ⟨Nat.le_of_ble_eq_true rfl, Nat.le_of_ble_eq_true rfl⟩ ⟨Nat.le_refl 0, Nat.le_refl 0⟩ hx hb hml hown hts hB hS hP hl.1 ?_
      refine W.eq (g2 := F0 m 88 ls [.int (f_X4_carrierIn v3 x1)]) rfl ?_
      have e9 : f_X6_split x1 x2 rK rL rG sZ sR sO sL sW sU pS bA bB bZ bP bQ bC bM = ((f_X4_carrierIn v3 x1), w_sZ, w_sR, w_sO, w_sL, w_sW) := by rw [hv, f_X6_split_L71, if_neg c_7]
      exact fi 88 _ (f_X4_carrierIn v3 x1) .int _ _ rfl rfl dX6_split_88 (by simp only [e9]) (by rw [e9]; exact hP) (by rw [e9]; exact hD) hS
    · refine lv_lload_n hx hb dX6_split_75 rfl (lv_at hl 2 rfl) ?_
      refine lv_iload_n hx hb dX6_split_76 rfl (lv_at hl 0 rfl) ?_
      refine ro_S (As := [.long v3, .int x1]) (rest := []) (c_X4_parcelIn l G v3 x1) [] rfl gX6_split_X4_parcelIn ⟨_, rfl⟩ hd_X4_parcelIn dX6_split_77 rfl rfl (Nat.le_of_ble_eq_true rfl) ⟨Nat.le_of_ble_eq_true rfl, Nat.le_of_ble_eq_true rfl⟩ ⟨Nat.le_refl 0, Nat.le_refl 0⟩ hx hb hml hown hts hB hS hP hl.1 ?_
      refine W.eq (g2 := F0 m 80 ls [.int (f_X4_parcelIn v3 x1)]) rfl ?_
      refine lv_goto (tgt := 88) hx hb dX6_split_80 (by decide) ?_
      have e9 : f_X6_split x1 x2 rK rL rG sZ sR sO sL sW sU pS bA bB bZ bP bQ bC bM = ((f_X4_parcelIn v3 x1), w_sZ, w_sR, w_sO, w_sL, w_sW) := by rw [hv, f_X6_split_L71, if_pos c_7]
      exact fi 88 _ (f_X4_parcelIn v3 x1) .int _ _ rfl rfl dX6_split_88 (by simp only [e9]) (by rw [e9]; exact hP) (by rw [e9]; exact hD) hS
  rw [k_X6_split] at hk
  refine lv_aload_n hx hb dX6_split_0 rfl (lv_at hl 0 rfl) ?_
  refine va_get (D := gD G) (ci := 6) (v := .ref q_b) (C := RX6) (T := TX6) (N := 8) hx hb hts i_X6 hown hB.1 hP 0 rfl rfl 1 (by decide) t_0 (fun _ h9 => h9) rfl dX6_split_1 ?_
  refine lv_iload_n hx hb dX6_split_4 rfl (lv_at hl 1 rfl) ?_
  refine ro_V (ci := 0) (q0 := 1) (As := [.int x1]) (rest := []) (c_X0_hasGood l G q_b q_bA q_bB q_bZ q_bG q_bP q_bQ bC bM bL bD x1) [1] rfl rfl rfl rfl gX6_split_X0_hasGood ⟨_, rfl⟩ hd_X0_hasGood rfl dX6_split_5 rfl rfl (Nat.le_of_ble_eq_true rfl) ⟨Nat.le_of_ble_eq_true rfl, Nat.le_of_ble_eq_true rfl⟩ ⟨Nat.le_refl 0, Nat.le_refl 0⟩ hx hb hml hown hts hB hS hP hl.1 ?_
  refine W.eq (g2 := F0 m 8 ls [.int (f_X0_hasGood x1 bM)]) rfl ?_
  refine lv_if_eq (tgt := 20) hx hb dX6_split_8 (by decide) (fun c_1 => ?_) (fun c_1 => ?_)
  · rw [if_pos c_1] at hk
    refine lv_iconst (v := (-1)) hx hb dX6_split_20 (by decide) ?_
    have e9 : f_X6_split x1 x2 rK rL rG sZ sR sO sL sW sU pS bA bB bZ bP bQ bC bM = ((-1), sZ, sR, sO, sL, sW) := by rw [f_X6_split, if_pos c_1]
    exact fi 21 _ (-1) .int _ _ rfl rfl dX6_split_21 (by simp only [e9]) (by rw [e9]; exact hP) (by rw [e9]; exact hD) hS
  · rw [if_neg c_1] at hk
    refine lv_iload_n hx hb dX6_split_11 rfl (lv_at hl 2 rfl) ?_
    refine lv_if_lt (tgt := 20) hx hb dX6_split_12 (by decide) (fun c_2 => ?_) (fun c_2 => ?_)
    · rw [if_pos c_2] at hk
      refine lv_iconst (v := (-1)) hx hb dX6_split_20 (by decide) ?_
      have e9 : f_X6_split x1 x2 rK rL rG sZ sR sO sL sW sU pS bA bB bZ bP bQ bC bM = ((-1), sZ, sR, sO, sL, sW) := by rw [f_X6_split, if_neg c_1, if_pos c_2]
      exact fi 21 _ (-1) .int _ _ rfl rfl dX6_split_21 (by simp only [e9]) (by rw [e9]; exact hP) (by rw [e9]; exact hD) hS
    · rw [if_neg c_2] at hk
      refine lv_iload_n hx hb dX6_split_15 rfl (lv_at hl 2 rfl) ?_
      refine lv_iconst (v := 1) hx hb dX6_split_16 (by decide) ?_
      refine lv_icmp_le (tgt := 22) hx hb dX6_split_17 (by decide) (fun c_3 => ?_) (fun c_3 => ?_)
      · rw [if_pos c_3] at hk
        refine lv_aload_n hx hb dX6_split_22 rfl (lv_at hl 0 rfl) ?_
        refine va_get (D := gD G) (ci := 6) (v := .ref q_s) (C := RX6) (T := TX6) (N := 8) hx hb hts i_X6 hown hB.1 hP 0 rfl rfl 5 (by decide) t_1 (fun _ h9 => h9) rfl dX6_split_23 ?_
        refine lv_aload_n hx hb dX6_split_26 rfl (lv_at hl 0 rfl) ?_
        refine va_get (D := gD G) (ci := 6) (v := .ref q_p) (C := RX6) (T := TX6) (N := 8) hx hb hts i_X6 hown hB.1 hP 0 rfl rfl 6 (by decide) t_2 (fun _ h9 => h9) rfl dX6_split_27 ?_
        refine ro_V (ci := 1) (q0 := 18) (As := []) (rest := [.ref q_s]) (c_X1_place l G q_p q_pS q_pE pN pK pS) [18, 19] rfl rfl rfl rfl gX6_split_X1_place ⟨_, rfl⟩ hd_X1_place rfl dX6_split_30 rfl rfl (Nat.le_of_ble_eq_true rfl) ⟨Nat.le_of_ble_eq_true rfl, Nat.le_of_ble_eq_true rfl⟩ ⟨Nat.le_refl 0, Nat.le_refl 0⟩ hx hb hml hown hts hB hS hP hl.1 ?_
        refine W.eq (g2 := F0 m 33 ls [.int (f_X1_place pS), .ref q_s]) rfl ?_
        refine lv_aload_n hx hb dX6_split_33 rfl (lv_at hl 0 rfl) ?_
        refine va_get (D := gD G) (ci := 6) (v := .ref q_p) (C := RX6) (T := TX6) (N := 8) hx hb hts i_X6 hown hB.1 hP 0 rfl rfl 6 (by decide) t_2 (fun _ h9 => h9) rfl dX6_split_34 ?_
        refine ro_V (ci := 1) (q0 := 18) (As := []) (rest := [.int (f_X1_place pS), .ref q_s]) (c_X1_day l G q_p q_pS q_pE pN pK pS) [18, 19] rfl rfl rfl rfl gX6_split_X1_day ⟨_, rfl⟩ hd_X1_day rfl dX6_split_37 rfl rfl (Nat.le_of_ble_eq_true rfl) ⟨Nat.le_of_ble_eq_true rfl, Nat.le_of_ble_eq_true rfl⟩ ⟨Nat.le_refl 0, Nat.le_refl 0⟩ hx hb hml hown hts hB hS hP hl.1 ?_
        refine W.eq (g2 := F0 m 40 ls [.int (f_X1_day pS), .int (f_X1_place pS), .ref q_s]) rfl ?_
        obtain ⟨o_4, hk⟩ := hk
        refine wr_V (ci := 4) (q0 := 11) (As := [.int (f_X1_place pS), .int (f_X1_day pS)]) (rest := []) (wr := [oX6 q_x q_t q_b q_d q_e q_r q_s q_p xF, oX1 q_p q_pS q_pE pN pK, aI G q_pS 26 pS]) (wf := [oX6 q_x q_t q_b q_d q_e q_r q_s q_p xF, oX0 q_b q_bA q_bB q_bZ q_bG q_bP q_bQ bC bM bL bD, aI G q_bA 18 bA, aI G q_bB 60 bB, aI G q_bZ 45 bZ, aI G q_bP 3 bP, aI G q_bQ 3 bQ, oX2 q_r q_b q_rK q_rL q_rG, aI G q_rK 256 rK, aI G q_rL 256 rL, aI G q_rG 3 rG, oX4 q_s q_b q_r q_sZ q_sR q_sO q_sL q_sW q_sU, aI G q_sZ 64 ((f_X4_leastCharge (f_X1_place pS) (f_X1_day pS) rK rL rG sZ sR sO sL sW sU bA bB bZ bP bQ bC bM).2.1), aJ G q_sR 64 ((f_X4_leastCharge (f_X1_place pS) (f_X1_day pS) rK rL rG sZ sR sO sL sW sU bA bB bZ bP bQ bC bM).2.2.1), aI G q_sO 256 ((f_X4_leastCharge (f_X1_place pS) (f_X1_day pS) rK rL rG sZ sR sO sL sW sU bA bB bZ bP bQ bC bM).2.2.2.1), aI G q_sL 256 ((f_X4_leastCharge (f_X1_place pS) (f_X1_day pS) rK rL rG sZ sR sO sL sW sU bA bB bZ bP bQ bC bM).2.2.2.2.1), aJ G q_sW 256 ((f_X4_leastCharge (f_X1_place pS) (f_X1_day pS) rK rL rG sZ sR sO sL sW sU bA bB bZ bP bQ bC bM).2.2.2.2.2), aJ G q_sU 256 sU, oX1 q_p q_pS q_pE pN pK, aI G q_pS 26 pS]) (c_X4_leastCharge l G q_b q_bA q_bB q_bZ q_bG q_bP q_bQ q_r q_rK q_rL q_rG q_s q_sZ q_sR q_sO q_sL q_sW q_sU bC bM bL bD bA bB bZ bP bQ rK rL rG sZ sR sO sL sW sU (f_X1_place pS) (f_X1_day pS) o_4) [1, 2, 3, 4, 5, 6, 7, 8, 9, 10, 11, 12, 13, 14, 15, 16, 17] [0, 18, 19] [0, 3, 4, 5, 6, 7, 8, 9, 10, 11, 12, 13, 14, 15, 16, 17, 18, 19, 1, 2] rfl rfl rfl (by decide) rfl rfl rfl gX6_split_X4_leastCharge ⟨_, rfl⟩ hd_X4_leastCharge rfl dX6_split_40 rfl rfl (Nat.le_of_ble_eq_true rfl) ⟨Nat.le_of_ble_eq_true rfl, Nat.le_of_ble_eq_true rfl⟩ ⟨Nat.le_refl 0, Nat.le_refl 0⟩ hx hb hml hown hts hB hD hS hA hP hl.1 (fun H locs hP hD hS => ?_)
        refine W.eq (g2 := F0 m 43 ls [.int ((f_X4_leastCharge (f_X1_place pS) (f_X1_day pS) rK rL rG sZ sR sO sL sW sU bA bB bZ bP bQ bC bM).1)]) rfl ?_
        refine lv_if_ge (tgt := 49) hx hb dX6_split_43 (by decide) (fun c_5 => ?_) (fun c_5 => ?_)
        · rw [if_pos c_5] at hk
          refine lv_aload_n hx hb dX6_split_49 rfl (lv_at hl 0 rfl) ?_
          refine va_get (D := gD G) (ci := 6) (v := .ref q_s) (C := RX6) (T := TX6) (N := 8) hx hb hts i_X6 hown hB.1 hP 0 rfl rfl 5 (by decide) t_1 (fun _ h9 => h9) rfl dX6_split_50 ?_
          refine lv_aload_n hx hb dX6_split_53 rfl (lv_at hl 0 rfl) ?_
          refine va_get (D := gD G) (ci := 6) (v := .ref q_p) (C := RX6) (T := TX6) (N := 8) hx hb hts i_X6 hown hB.1 hP 0 rfl rfl 6 (by decide) t_2 (fun _ h9 => h9) rfl dX6_split_54 ?_
          refine ro_V (ci := 1) (q0 := 18) (As := []) (rest := [.ref q_s]) (c_X1_place l G q_p q_pS q_pE pN pK pS) [18, 19] rfl rfl rfl rfl gX6_split_X1_place ⟨_, rfl⟩ hd_X1_place rfl dX6_split_57 rfl rfl (Nat.le_of_ble_eq_true rfl) ⟨Nat.le_of_ble_eq_true rfl, Nat.le_of_ble_eq_true rfl⟩ ⟨Nat.le_refl 0, Nat.le_refl 0⟩ hx hb hml hown hts hB hS hP hl.1 ?_
          refine W.eq (g2 := F0 m 60 ls [.int (f_X1_place pS), .ref q_s]) rfl ?_
          refine lv_aload_n hx hb dX6_split_60 rfl (lv_at hl 0 rfl) ?_
          refine va_get (D := gD G) (ci := 6) (v := .ref q_p) (C := RX6) (T := TX6) (N := 8) hx hb hts i_X6 hown hB.1 hP 0 rfl rfl 6 (by decide) t_2 (fun _ h9 => h9) rfl dX6_split_61 ?_
          refine ro_V (ci := 1) (q0 := 18) (As := []) (rest := [.int (f_X1_place pS), .ref q_s]) (c_X1_day l G q_p q_pS q_pE pN pK pS) [18, 19] rfl rfl rfl rfl gX6_split_X1_day ⟨_, rfl⟩ hd_X1_day rfl dX6_split_64 rfl rfl (Nat.le_of_ble_eq_true rfl) ⟨Nat.le_of_ble_eq_true rfl, Nat.le_of_ble_eq_true rfl⟩ ⟨Nat.le_refl 0, Nat.le_refl 0⟩ hx hb hml hown hts hB hS hP hl.1 ?_
          refine W.eq (g2 := F0 m 67 ls [.int (f_X1_day pS), .int (f_X1_place pS), .ref q_s]) rfl ?_
          obtain ⟨o_6, hk⟩ := hk
          refine ro_V (ci := 4) (q0 := 11) (As := [.int (f_X1_place pS), .int (f_X1_day pS)]) (rest := []) (c_X4_leastRow l G q_b q_bA q_bB q_bZ q_bG q_bP q_bQ q_r q_rK q_rL q_rG q_s q_sZ q_sR q_sO q_sL q_sW q_sU bC bM bL bD bZ bQ ((f_X4_leastCharge (f_X1_place pS) (f_X1_day pS) rK rL rG sZ sR sO sL sW sU bA bB bZ bP bQ bC bM).2.2.1) (f_X1_place pS) (f_X1_day pS) o_6) [1, 4, 6, 7, 11, 13] rfl rfl rfl rfl gX6_split_X4_leastRow ⟨_, rfl⟩ hd_X4_leastRow rfl dX6_split_67 rfl rfl (Nat.le_of_ble_eq_true rfl) ⟨Nat.le_of_ble_eq_true rfl, Nat.le_of_ble_eq_true rfl⟩ ⟨Nat.le_refl 0, Nat.le_refl 0⟩ hx hb hml hown hts hB hS hP hl.1 ?_
          refine W.eq (g2 := F0 m 70 ls [.long (f_X4_leastRow (f_X1_place pS) (f_X1_day pS) ((f_X4_leastCharge (f_X1_place pS) (f_X1_day pS) rK rL rG sZ sR sO sL sW sU bA bB bZ bP bQ bC bM).2.2.1) bZ bQ bC)]) rfl ?_
          refine lv_lstore_n (lv' := [(3, .long (f_X4_leastRow (f_X1_place pS) (f_X1_day pS) ((f_X4_leastCharge (f_X1_place pS) (f_X1_day pS) rK rL rG sZ sR sO sL sW sU bA bB bZ bP bQ bC bM).2.2.1) bZ bQ bC)), (0, .ref q_x), (1, .int x1), (2, .int x2)]) hx hb dX6_split_70 rfl hl (by decide) rfl (fun ls hl => ?_)
          exact T71 (f_X4_leastRow (f_X1_place pS) (f_X1_day pS) ((f_X4_leastCharge (f_X1_place pS) (f_X1_day pS) rK rL rG sZ sR sO sL sW sU bA bB bZ bP bQ bC bM).2.2.1) bZ bQ bC) ((f_X4_leastCharge (f_X1_place pS) (f_X1_day pS) rK rL rG sZ sR sO sL sW sU bA bB bZ bP bQ bC bM).2.1) ((f_X4_leastCharge (f_X1_place pS) (f_X1_day pS) rK rL rG sZ sR sO sL sW sU bA bB bZ bP bQ bC bM).2.2.1) ((f_X4_leastCharge (f_X1_place pS) (f_X1_day pS) rK rL rG sZ sR sO sL sW sU bA bB bZ bP bQ bC bM).2.2.2.1) ((f_X4_leastCharge (f_X1_place pS) (f_X1_day pS) rK rL rG sZ sR sO sL sW sU bA bB bZ bP bQ bC bM).2.2.2.2.1) ((f_X4_leastCharge (f_X1_place pS) (f_X1_day pS) rK rL rG sZ sR sO sL sW sU bA bB bZ bP bQ bC bM).2.2.2.2.2) hk (by rw [f_X6_split, if_neg c_1, if_neg c_2, if_pos c_3, if_pos c_5]) _ _ hP hD hS ls (lv_sub hl [2, 3, 0] rfl)
        · rw [if_neg c_5] at hk
          refine lv_bipush (v := (-2)) hx hb dX6_split_46 (by decide) ?_
          have e9 : f_X6_split x1 x2 rK rL rG sZ sR sO sL sW sU pS bA bB bZ bP bQ bC bM = ((-2), ((f_X4_leastCharge (f_X1_place pS) (f_X1_day pS) rK rL rG sZ sR sO sL sW sU bA bB bZ bP bQ bC bM).2.1), ((f_X4_leastCharge (f_X1_place pS) (f_X1_day pS) rK rL rG sZ sR sO sL sW sU bA bB bZ bP bQ bC bM).2.2.1), ((f_X4_leastCharge (f_X1_place pS) (f_X1_day pS) rK rL rG sZ sR sO sL sW sU bA bB bZ bP bQ bC bM).2.2.2.1), ((f_X4_leastCharge (f_X1_place pS) (f_X1_day pS) rK rL rG sZ sR sO sL sW sU bA bB bZ bP bQ bC bM).2.2.2.2.1), ((f_X4_leastCharge (f_X1_place pS) (f_X1_day pS) rK rL rG sZ sR sO sL sW sU bA bB bZ bP bQ bC bM).2.2.2.2.2)) := by rw [f_X6_split, if_neg c_1, if_neg c_2, if_pos c_3, if_neg c_5]
          exact fi 48 _ (-2) .int _ _ rfl rfl dX6_split_48 (by simp only [e9]) (by rw [e9]; exact hP) (by rw [e9]; exact hD) hS
      · rw [if_neg c_3] at hk
        refine lv_iconst (v := (-1)) hx hb dX6_split_20 (by decide) ?_
        have e9 : f_X6_split x1 x2 rK rL rG sZ sR sO sL sW sU pS bA bB bZ bP bQ bC bM = ((-1), sZ, sR, sO, sL, sW) := by rw [f_X6_split, if_neg c_1, if_neg c_2, if_neg c_3]
        exact fi 21 _ (-1) .int _ _ rfl rfl dX6_split_21 (by simp only [e9]) (by rw [e9]; exact hP) (by rw [e9]; exact hD) hS

def f_X6_bound (rK : Nat → Int32) (pS : Nat → Int32) (bB : Nat → Int32) (bZ : Nat → Int32) (bP : Nat → Int32) (bQ : Nat → Int32) (bC : Int32) (bM : Int32) : Int32 := (f_X6_lowerBound rK pS bB bZ bP bQ bC bM)
def k_X6_bound (rK : Nat → Int32) (pS : Nat → Int32) (bB : Nat → Int32) (bZ : Nat → Int32) (bP : Nat → Int32) (bQ : Nat → Int32) (bC : Int32) (bM : Int32) : Prop := (k_X6_lowerBound rK pS bB bZ bP bQ bC bM ∧ True)
theorem hd_X6_bound : yX6_bound.cls ≠ "java/lang/invoke/MethodHandle" ∧ yX6_bound.cls ≠ "java/lang/invoke/VarHandle" ∧ (parseMethodDescriptor yX6_bound.desc).map (fun d => d.parameters.length) = some 0 := by decide +kernel
set_option maxHeartbeats 4000000 in
set_option maxRecDepth 100000 in
theorem c_X6_bound (l : Launch) (G : BGT) (q_x q_t q_b q_d q_e q_r q_s q_p q_bA q_bB q_bZ q_bG q_bP q_bQ q_rK q_rL q_rG q_pS q_pE : Nat) (xF : Int32) (bC : Int32) (bM : Int32) (bL : Int32) (bD : Int32) (bB : Nat → Int32) (bZ : Nat → Int32) (bP : Nat → Int32) (bQ : Nat → Int32) (rK : Nat → Int32) (pN : Int32) (pK : Int32) (pS : Nat → Int32) (hk : k_X6_bound rK pS bB bZ bP bQ bC bM) : RO l yX6_bound wsX6_bound 5 G [oX6 q_x q_t q_b q_d q_e q_r q_s q_p xF, oX0 q_b q_bA q_bB q_bZ q_bG q_bP q_bQ bC bM bL bD, aI G q_bB 60 bB, aI G q_bZ 45 bZ, aI G q_bP 3 bP, aI G q_bQ 3 bQ, oX2 q_r q_b q_rK q_rL q_rG, aI G q_rK 256 rK, oX1 q_p q_pS q_pE pN pK, aI G q_pS 26 pS] [.ref q_x] (some (.int (f_X6_bound rK pS bB bZ bP bQ bC bM))) := by
  refine RO.ofW (cc := cX6_bound) (maxL := 1) (ret := (some .int)) (C := RX6) (by decide) rfl rfl (Nat.le_of_ble_eq_true rfl) ?_
  intro p e s m args below meth c Q ls hx hb hml hts hown hP hB hl fi fl fv
  have hS : va_S (fun _ => False) s.heap s.heap [] := va_S.rf
  have hl : lv_has ls 1 [(0, .ref q_x)] := hl
  rw [k_X6_bound] at hk
  refine lv_aload_n hx hb dX6_bound_0 rfl (lv_at hl 0 rfl) ?_
  obtain ⟨o_1, hk⟩ := hk
  refine ro_V (ci := 6) (q0 := 0) (As := []) (rest := []) (c_X6_lowerBound l G q_x q_t q_b q_d q_e q_r q_s q_p q_bA q_bB q_bZ q_bG q_bP q_bQ q_rK q_rL q_rG q_pS q_pE xF bC bM bL bD bB bZ bP bQ rK pN pK pS o_1) [0, 1, 2, 3, 4, 5, 6, 7, 8, 9] rfl rfl rfl rfl gX6_bound_X6_lowerBound ⟨_, rfl⟩ hd_X6_lowerBound rfl dX6_bound_1 rfl rfl (Nat.le_of_ble_eq_true rfl) ⟨Nat.le_of_ble_eq_true rfl, Nat.le_of_ble_eq_true rfl⟩ ⟨Nat.le_refl 0, Nat.le_refl 0⟩ hx hb hml hown hts hB hS hP hl.1 ?_
  refine W.eq (g2 := F0 m 4 ls [.int (f_X6_lowerBound rK pS bB bZ bP bQ bC bM)]) rfl ?_
  exact fi 4 _ (f_X6_lowerBound rK pS bB bZ bP bQ bC bM) .int rfl rfl dX6_bound_4 (by rw [f_X6_bound])

def f_X6_gap (rK : Nat → Int32) (rL : Nat → Int32) (rG : Nat → Int32) (sZ : Nat → Int32) (sR : Nat → Int64) (sO : Nat → Int32) (sL : Nat → Int32) (sW : Nat → Int64) (sU : Nat → Int64) (pS : Nat → Int32) (bA : Nat → Int32) (bB : Nat → Int32) (bZ : Nat → Int32) (bP : Nat → Int32) (bQ : Nat → Int32) (bC : Int32) (bM : Int32) : Int32 × (Nat → Int32) × (Nat → Int64) × (Nat → Int32) × (Nat → Int32) × (Nat → Int64) := (if ((f_X4_leastCharge (f_X1_place pS) (f_X1_day pS) rK rL rG sZ sR sO sL sW sU bA bB bZ bP bQ bC bM).1) < 0 then ((-1), ((f_X4_leastCharge (f_X1_place pS) (f_X1_day pS) rK rL rG sZ sR sO sL sW sU bA bB bZ bP bQ bC bM).2.1), ((f_X4_leastCharge (f_X1_place pS) (f_X1_day pS) rK rL rG sZ sR sO sL sW sU bA bB bZ bP bQ bC bM).2.2.1), ((f_X4_leastCharge (f_X1_place pS) (f_X1_day pS) rK rL rG sZ sR sO sL sW sU bA bB bZ bP bQ bC bM).2.2.2.1), ((f_X4_leastCharge (f_X1_place pS) (f_X1_day pS) rK rL rG sZ sR sO sL sW sU bA bB bZ bP bQ bC bM).2.2.2.2.1), ((f_X4_leastCharge (f_X1_place pS) (f_X1_day pS) rK rL rG sZ sR sO sL sW sU bA bB bZ bP bQ bC bM).2.2.2.2.2)) else (if 0 ≤ (f_X6_lowerBound rK pS bB bZ bP bQ bC bM) then ((((f_X4_leastCharge (f_X1_place pS) (f_X1_day pS) rK rL rG sZ sR sO sL sW sU bA bB bZ bP bQ bC bM).1) - (f_X6_lowerBound rK pS bB bZ bP bQ bC bM)), ((f_X4_leastCharge (f_X1_place pS) (f_X1_day pS) rK rL rG sZ sR sO sL sW sU bA bB bZ bP bQ bC bM).2.1), ((f_X4_leastCharge (f_X1_place pS) (f_X1_day pS) rK rL rG sZ sR sO sL sW sU bA bB bZ bP bQ bC bM).2.2.1), ((f_X4_leastCharge (f_X1_place pS) (f_X1_day pS) rK rL rG sZ sR sO sL sW sU bA bB bZ bP bQ bC bM).2.2.2.1), ((f_X4_leastCharge (f_X1_place pS) (f_X1_day pS) rK rL rG sZ sR sO sL sW sU bA bB bZ bP bQ bC bM).2.2.2.2.1), ((f_X4_leastCharge (f_X1_place pS) (f_X1_day pS) rK rL rG sZ sR sO sL sW sU bA bB bZ bP bQ bC bM).2.2.2.2.2)) else ((-1), ((f_X4_leastCharge (f_X1_place pS) (f_X1_day pS) rK rL rG sZ sR sO sL sW sU bA bB bZ bP bQ bC bM).2.1), ((f_X4_leastCharge (f_X1_place pS) (f_X1_day pS) rK rL rG sZ sR sO sL sW sU bA bB bZ bP bQ bC bM).2.2.1), ((f_X4_leastCharge (f_X1_place pS) (f_X1_day pS) rK rL rG sZ sR sO sL sW sU bA bB bZ bP bQ bC bM).2.2.2.1), ((f_X4_leastCharge (f_X1_place pS) (f_X1_day pS) rK rL rG sZ sR sO sL sW sU bA bB bZ bP bQ bC bM).2.2.2.2.1), ((f_X4_leastCharge (f_X1_place pS) (f_X1_day pS) rK rL rG sZ sR sO sL sW sU bA bB bZ bP bQ bC bM).2.2.2.2.2))))
def k_X6_gap (rK : Nat → Int32) (rL : Nat → Int32) (rG : Nat → Int32) (sZ : Nat → Int32) (sO : Nat → Int32) (sL : Nat → Int32) (sW : Nat → Int64) (sU : Nat → Int64) (pS : Nat → Int32) (bA : Nat → Int32) (bB : Nat → Int32) (bZ : Nat → Int32) (bP : Nat → Int32) (bQ : Nat → Int32) (bC : Int32) (bM : Int32) : Prop := (k_X4_leastCharge (f_X1_place pS) (f_X1_day pS) rK rL rG sZ sO sL sW sU bA bB bZ bP bQ bC bM ∧ (k_X6_lowerBound rK pS bB bZ bP bQ bC bM ∧ True))
theorem hd_X6_gap : yX6_gap.cls ≠ "java/lang/invoke/MethodHandle" ∧ yX6_gap.cls ≠ "java/lang/invoke/VarHandle" ∧ (parseMethodDescriptor yX6_gap.desc).map (fun d => d.parameters.length) = some 0 := by decide +kernel
set_option maxHeartbeats 4000000 in
set_option maxRecDepth 100000 in
theorem c_X6_gap (l : Launch) (G : BGT) (q_x q_t q_b q_d q_e q_r q_s q_p q_bA q_bB q_bZ q_bG q_bP q_bQ q_rK q_rL q_rG q_sZ q_sR q_sO q_sL q_sW q_sU q_pS q_pE : Nat) (xF : Int32) (bC : Int32) (bM : Int32) (bL : Int32) (bD : Int32) (bA : Nat → Int32) (bB : Nat → Int32) (bZ : Nat → Int32) (bP : Nat → Int32) (bQ : Nat → Int32) (rK : Nat → Int32) (rL : Nat → Int32) (rG : Nat → Int32) (sZ : Nat → Int32) (sR : Nat → Int64) (sO : Nat → Int32) (sL : Nat → Int32) (sW : Nat → Int64) (sU : Nat → Int64) (pN : Int32) (pK : Int32) (pS : Nat → Int32) (hk : k_X6_gap rK rL rG sZ sO sL sW sU pS bA bB bZ bP bQ bC bM) : WR l yX6_gap wsX6_gap 7 G [oX6 q_x q_t q_b q_d q_e q_r q_s q_p xF, oX0 q_b q_bA q_bB q_bZ q_bG q_bP q_bQ bC bM bL bD, aI G q_bA 18 bA, aI G q_bB 60 bB, aI G q_bZ 45 bZ, aI G q_bP 3 bP, aI G q_bQ 3 bQ, oX2 q_r q_b q_rK q_rL q_rG, aI G q_rK 256 rK, aI G q_rL 256 rL, aI G q_rG 3 rG, oX4 q_s q_b q_r q_sZ q_sR q_sO q_sL q_sW q_sU, aI G q_sZ 64 sZ, aJ G q_sR 64 sR, aI G q_sO 256 sO, aI G q_sL 256 sL, aJ G q_sW 256 sW, aJ G q_sU 256 sU, oX1 q_p q_pS q_pE pN pK, aI G q_pS 26 pS] [oX6 q_x q_t q_b q_d q_e q_r q_s q_p xF, oX0 q_b q_bA q_bB q_bZ q_bG q_bP q_bQ bC bM bL bD, aI G q_bA 18 bA, aI G q_bB 60 bB, aI G q_bZ 45 bZ, aI G q_bP 3 bP, aI G q_bQ 3 bQ, oX2 q_r q_b q_rK q_rL q_rG, aI G q_rK 256 rK, aI G q_rL 256 rL, aI G q_rG 3 rG, oX4 q_s q_b q_r q_sZ q_sR q_sO q_sL q_sW q_sU, aI G q_sZ 64 ((f_X6_gap rK rL rG sZ sR sO sL sW sU pS bA bB bZ bP bQ bC bM).2.1), aJ G q_sR 64 ((f_X6_gap rK rL rG sZ sR sO sL sW sU pS bA bB bZ bP bQ bC bM).2.2.1), aI G q_sO 256 ((f_X6_gap rK rL rG sZ sR sO sL sW sU pS bA bB bZ bP bQ bC bM).2.2.2.1), aI G q_sL 256 ((f_X6_gap rK rL rG sZ sR sO sL sW sU pS bA bB bZ bP bQ bC bM).2.2.2.2.1), aJ G q_sW 256 ((f_X6_gap rK rL rG sZ sR sO sL sW sU pS bA bB bZ bP bQ bC bM).2.2.2.2.2), aJ G q_sU 256 sU, oX1 q_p q_pS q_pE pN pK, aI G q_pS 26 pS] [.ref q_x] (some (.int ((f_X6_gap rK rL rG sZ sR sO sL sW sU pS bA bB bZ bP bQ bC bM).1))) := by
  refine WR.ofW (cc := cX6_gap) (maxL := 3) (ret := (some .int)) (C := RX6) (by decide) rfl rfl (Nat.le_of_ble_eq_true rfl) ?_
  intro p e s m args below meth c Q ls A hx hb hml hts hown hP hD hS hA hB hl fi fv
  have hl : lv_has ls 3 [(0, .ref q_x)] := hl
  have t_0 := hts (.fieldLink RX6 49 "ParcelSplit" "splitter" "LParcelSplit$Splitter;") (by decide +kernel)
  have t_1 := hts (.fieldLink RX6 56 "ParcelSplit" "plan" "LParcelSplit$Plan;") (by decide +kernel)
  have i_X6 : ∀ w ∈ wsX60, w ∈ wsX6_gap := by decide +kernel
  rw [k_X6_gap] at hk
  refine lv_aload_n hx hb dX6_gap_0 rfl (lv_at hl 0 rfl) ?_
  refine va_get (D := gD G) (ci := 6) (v := .ref q_s) (C := RX6) (T := TX6) (N := 8) hx hb hts i_X6 hown hB.1 hP 0 rfl rfl 5 (by decide) t_0 (fun _ h9 => h9) rfl dX6_gap_1 ?_
  refine lv_aload_n hx hb dX6_gap_4 rfl (lv_at hl 0 rfl) ?_
  refine va_get (D := gD G) (ci := 6) (v := .ref q_p) (C := RX6) (T := TX6) (N := 8) hx hb hts i_X6 hown hB.1 hP 0 rfl rfl 6 (by decide) t_1 (fun _ h9 => h9) rfl dX6_gap_5 ?_
  refine ro_V (ci := 1) (q0 := 18) (As := []) (rest := [.ref q_s]) (c_X1_place l G q_p q_pS q_pE pN pK pS) [18, 19] rfl rfl rfl rfl gX6_gap_X1_place ⟨_, rfl⟩ hd_X1_place rfl dX6_gap_8 rfl rfl (Nat.le_of_ble_eq_true rfl) ⟨Nat.le_of_ble_eq_true rfl, Nat.le_of_ble_eq_true rfl⟩ ⟨Nat.le_refl 0, Nat.le_refl 0⟩ hx hb hml hown hts hB hS hP hl.1 ?_
  refine W.eq (g2 := F0 m 11 ls [.int (f_X1_place pS), .ref q_s]) rfl ?_
  refine lv_aload_n hx hb dX6_gap_11 rfl (lv_at hl 0 rfl) ?_
  refine va_get (D := gD G) (ci := 6) (v := .ref q_p) (C := RX6) (T := TX6) (N := 8) hx hb hts i_X6 hown hB.1 hP 0 rfl rfl 6 (by decide) t_1 (fun _ h9 => h9) rfl dX6_gap_12 ?_
  refine ro_V (ci := 1) (q0 := 18) (As := []) (rest := [.int (f_X1_place pS), .ref q_s]) (c_X1_day l G q_p q_pS q_pE pN pK pS) [18, 19] rfl rfl rfl rfl gX6_gap_X1_day ⟨_, rfl⟩ hd_X1_day rfl dX6_gap_15 rfl rfl (Nat.le_of_ble_eq_true rfl) ⟨Nat.le_of_ble_eq_true rfl, Nat.le_of_ble_eq_true rfl⟩ ⟨Nat.le_refl 0, Nat.le_refl 0⟩ hx hb hml hown hts hB hS hP hl.1 ?_
  refine W.eq (g2 := F0 m 18 ls [.int (f_X1_day pS), .int (f_X1_place pS), .ref q_s]) rfl ?_
  obtain ⟨o_1, hk⟩ := hk
  refine wr_V (ci := 4) (q0 := 11) (As := [.int (f_X1_place pS), .int (f_X1_day pS)]) (rest := []) (wr := [oX6 q_x q_t q_b q_d q_e q_r q_s q_p xF, oX1 q_p q_pS q_pE pN pK, aI G q_pS 26 pS]) (wf := [oX6 q_x q_t q_b q_d q_e q_r q_s q_p xF, oX0 q_b q_bA q_bB q_bZ q_bG q_bP q_bQ bC bM bL bD, aI G q_bA 18 bA, aI G q_bB 60 bB, aI G q_bZ 45 bZ, aI G q_bP 3 bP, aI G q_bQ 3 bQ, oX2 q_r q_b q_rK q_rL q_rG, aI G q_rK 256 rK, aI G q_rL 256 rL, aI G q_rG 3 rG, oX4 q_s q_b q_r q_sZ q_sR q_sO q_sL q_sW q_sU, aI G q_sZ 64 ((f_X4_leastCharge (f_X1_place pS) (f_X1_day pS) rK rL rG sZ sR sO sL sW sU bA bB bZ bP bQ bC bM).2.1), aJ G q_sR 64 ((f_X4_leastCharge (f_X1_place pS) (f_X1_day pS) rK rL rG sZ sR sO sL sW sU bA bB bZ bP bQ bC bM).2.2.1), aI G q_sO 256 ((f_X4_leastCharge (f_X1_place pS) (f_X1_day pS) rK rL rG sZ sR sO sL sW sU bA bB bZ bP bQ bC bM).2.2.2.1), aI G q_sL 256 ((f_X4_leastCharge (f_X1_place pS) (f_X1_day pS) rK rL rG sZ sR sO sL sW sU bA bB bZ bP bQ bC bM).2.2.2.2.1), aJ G q_sW 256 ((f_X4_leastCharge (f_X1_place pS) (f_X1_day pS) rK rL rG sZ sR sO sL sW sU bA bB bZ bP bQ bC bM).2.2.2.2.2), aJ G q_sU 256 sU, oX1 q_p q_pS q_pE pN pK, aI G q_pS 26 pS]) (c_X4_leastCharge l G q_b q_bA q_bB q_bZ q_bG q_bP q_bQ q_r q_rK q_rL q_rG q_s q_sZ q_sR q_sO q_sL q_sW q_sU bC bM bL bD bA bB bZ bP bQ rK rL rG sZ sR sO sL sW sU (f_X1_place pS) (f_X1_day pS) o_1) [1, 2, 3, 4, 5, 6, 7, 8, 9, 10, 11, 12, 13, 14, 15, 16, 17] [0, 18, 19] [0, 3, 4, 5, 6, 7, 8, 9, 10, 11, 12, 13, 14, 15, 16, 17, 18, 19, 1, 2] rfl rfl rfl (by decide) rfl rfl rfl gX6_gap_X4_leastCharge ⟨_, rfl⟩ hd_X4_leastCharge rfl dX6_gap_18 rfl rfl (Nat.le_of_ble_eq_true rfl) ⟨Nat.le_of_ble_eq_true rfl, Nat.le_of_ble_eq_true rfl⟩ ⟨Nat.le_refl 0, Nat.le_refl 0⟩ hx hb hml hown hts hB hD hS hA hP hl.1 (fun H locs hP hD hS => ?_)
  refine W.eq (g2 := F0 m 21 ls [.int ((f_X4_leastCharge (f_X1_place pS) (f_X1_day pS) rK rL rG sZ sR sO sL sW sU bA bB bZ bP bQ bC bM).1)]) rfl ?_
  refine lv_istore_n (lv' := [(1, .int ((f_X4_leastCharge (f_X1_place pS) (f_X1_day pS) rK rL rG sZ sR sO sL sW sU bA bB bZ bP bQ bC bM).1)), (0, .ref q_x)]) hx hb dX6_gap_21 rfl hl (by decide) rfl (fun ls hl => ?_)
  refine lv_aload_n hx hb dX6_gap_22 rfl (lv_at hl 1 rfl) ?_
  obtain ⟨o_2, hk⟩ := hk
  refine ro_V (ci := 6) (q0 := 0) (As := []) (rest := []) (c_X6_lowerBound l G q_x q_t q_b q_d q_e q_r q_s q_p q_bA q_bB q_bZ q_bG q_bP q_bQ q_rK q_rL q_rG q_pS q_pE xF bC bM bL bD bB bZ bP bQ rK pN pK pS o_2) [0, 1, 3, 4, 5, 6, 7, 8, 18, 19] rfl rfl rfl rfl gX6_gap_X6_lowerBound ⟨_, rfl⟩ hd_X6_lowerBound rfl dX6_gap_23 rfl rfl (Nat.le_of_ble_eq_true rfl) ⟨Nat.le_of_ble_eq_true rfl, Nat.le_of_ble_eq_true rfl⟩ ⟨Nat.le_refl 0, Nat.le_refl 0⟩ hx hb hml hown hts hB hS hP hl.1 ?_
  refine W.eq (g2 := F0 m 26 ls [.int (f_X6_lowerBound rK pS bB bZ bP bQ bC bM)]) rfl ?_
  refine lv_istore_n (lv' := [(2, .int (f_X6_lowerBound rK pS bB bZ bP bQ bC bM)), (1, .int ((f_X4_leastCharge (f_X1_place pS) (f_X1_day pS) rK rL rG sZ sR sO sL sW sU bA bB bZ bP bQ bC bM).1)), (0, .ref q_x)]) hx hb dX6_gap_26 rfl hl (by decide) rfl (fun ls hl => ?_)
  refine lv_iload_n hx hb dX6_gap_27 rfl (lv_at hl 1 rfl) ?_
  refine lv_if_lt (tgt := 35) hx hb dX6_gap_28 (by decide) (fun c_3 => ?_) (fun c_3 => ?_)
  · refine lv_iconst (v := (-1)) hx hb dX6_gap_35 (by decide) ?_
    refine lv_goto (tgt := 42) hx hb dX6_gap_36 (by decide) ?_
    have e9 : f_X6_gap rK rL rG sZ sR sO sL sW sU pS bA bB bZ bP bQ bC bM = ((-1), ((f_X4_leastCharge (f_X1_place pS) (f_X1_day pS) rK rL rG sZ sR sO sL sW sU bA bB bZ bP bQ bC bM).2.1), ((f_X4_leastCharge (f_X1_place pS) (f_X1_day pS) rK rL rG sZ sR sO sL sW sU bA bB bZ bP bQ bC bM).2.2.1), ((f_X4_leastCharge (f_X1_place pS) (f_X1_day pS) rK rL rG sZ sR sO sL sW sU bA bB bZ bP bQ bC bM).2.2.2.1), ((f_X4_leastCharge (f_X1_place pS) (f_X1_day pS) rK rL rG sZ sR sO sL sW sU bA bB bZ bP bQ bC bM).2.2.2.2.1), ((f_X4_leastCharge (f_X1_place pS) (f_X1_day pS) rK rL rG sZ sR sO sL sW sU bA bB bZ bP bQ bC bM).2.2.2.2.2)) := by rw [f_X6_gap, if_pos c_3]
    exact fi 42 _ (-1) .int _ _ rfl rfl dX6_gap_42 (by simp only [e9]) (by rw [e9]; exact hP) (by rw [e9]; exact hD) hS
  · refine lv_iload_n hx hb dX6_gap_31 rfl (lv_at hl 0 rfl) ?_
    refine lv_if_ge (tgt := 39) hx hb dX6_gap_32 (by decide) (fun c_4 => ?_) (fun c_4 => ?_)
    · refine lv_iload_n hx hb dX6_gap_39 rfl (lv_at hl 1 rfl) ?_
      refine lv_iload_n hx hb dX6_gap_40 rfl (lv_at hl 0 rfl) ?_
      refine lv_isub hx hb dX6_gap_41 ?_
      have e9 : f_X6_gap rK rL rG sZ sR sO sL sW sU pS bA bB bZ bP bQ bC bM = ((((f_X4_leastCharge (f_X1_place pS) (f_X1_day pS) rK rL rG sZ sR sO sL sW sU bA bB bZ bP bQ bC bM).1) - (f_X6_lowerBound rK pS bB bZ bP bQ bC bM)), ((f_X4_leastCharge (f_X1_place pS) (f_X1_day pS) rK rL rG sZ sR sO sL sW sU bA bB bZ bP bQ bC bM).2.1), ((f_X4_leastCharge (f_X1_place pS) (f_X1_day pS) rK rL rG sZ sR sO sL sW sU bA bB bZ bP bQ bC bM).2.2.1), ((f_X4_leastCharge (f_X1_place pS) (f_X1_day pS) rK rL rG sZ sR sO sL sW sU bA bB bZ bP bQ bC bM).2.2.2.1), ((f_X4_leastCharge (f_X1_place pS) (f_X1_day pS) rK rL rG sZ sR sO sL sW sU bA bB bZ bP bQ bC bM).2.2.2.2.1), ((f_X4_leastCharge (f_X1_place pS) (f_X1_day pS) rK rL rG sZ sR sO sL sW sU bA bB bZ bP bQ bC bM).2.2.2.2.2)) := by rw [f_X6_gap, if_neg c_3, if_pos c_4]
      exact fi 42 _ (((f_X4_leastCharge (f_X1_place pS) (f_X1_day pS) rK rL rG sZ sR sO sL sW sU bA bB bZ bP bQ bC bM).1) - (f_X6_lowerBound rK pS bB bZ bP bQ bC bM)) .int _ _ rfl rfl dX6_gap_42 (by simp only [e9]) (by rw [e9]; exact hP) (by rw [e9]; exact hD) hS
    · refine lv_iconst (v := (-1)) hx hb dX6_gap_35 (by decide) ?_
      refine lv_goto (tgt := 42) hx hb dX6_gap_36 (by decide) ?_
      have e9 : f_X6_gap rK rL rG sZ sR sO sL sW sU pS bA bB bZ bP bQ bC bM = ((-1), ((f_X4_leastCharge (f_X1_place pS) (f_X1_day pS) rK rL rG sZ sR sO sL sW sU bA bB bZ bP bQ bC bM).2.1), ((f_X4_leastCharge (f_X1_place pS) (f_X1_day pS) rK rL rG sZ sR sO sL sW sU bA bB bZ bP bQ bC bM).2.2.1), ((f_X4_leastCharge (f_X1_place pS) (f_X1_day pS) rK rL rG sZ sR sO sL sW sU bA bB bZ bP bQ bC bM).2.2.2.1), ((f_X4_leastCharge (f_X1_place pS) (f_X1_day pS) rK rL rG sZ sR sO sL sW sU bA bB bZ bP bQ bC bM).2.2.2.2.1), ((f_X4_leastCharge (f_X1_place pS) (f_X1_day pS) rK rL rG sZ sR sO sL sW sU bA bB bZ bP bQ bC bM).2.2.2.2.2)) := by rw [f_X6_gap, if_neg c_3, if_neg c_4]
      exact fi 42 _ (-1) .int _ _ rfl rfl dX6_gap_42 (by simp only [e9]) (by rw [e9]; exact hP) (by rw [e9]; exact hD) hS

def f_X6_parcel (x1 : Int32) (x2 : Int32) (rK : Nat → Int32) (rL : Nat → Int32) (rG : Nat → Int32) (pS : Nat → Int32) (bA : Nat → Int32) (bB : Nat → Int32) (bZ : Nat → Int32) (bP : Nat → Int32) (bQ : Nat → Int32) : Int32 := (if (f_X6_isParcel x1) = 0 then (-100) else (if x2 = 0 then (f_X1_goodsIn x1 pS) else (if x2 = 1 then (f_X1_carrierOf x1 pS) else (if x2 = 2 then (if (f_X1_claimedOf x1 pS) = 0 then (-1) else (f_X1_claimedOf x1 pS)) else (if x2 = 3 then (f_X6_parcelCharge x1 0 rK rL rG pS bA bB bZ bP bQ) else (if x2 = 4 then (f_X6_parcelCharge x1 1 rK rL rG pS bA bB bZ bP bQ) else (-100)))))))
def k_X6_parcel (x1 : Int32) (x2 : Int32) (rK : Nat → Int32) (rL : Nat → Int32) (rG : Nat → Int32) (pS : Nat → Int32) (bA : Nat → Int32) (bB : Nat → Int32) (bZ : Nat → Int32) (bP : Nat → Int32) (bQ : Nat → Int32) : Prop := (if (f_X6_isParcel x1) = 0 then True else (if x2 = 0 then (k_X1_goodsIn x1 pS ∧ True) else (if x2 = 1 then True else (if x2 = 2 then True else (if x2 = 3 then (k_X6_parcelCharge x1 0 rK rL rG pS bA bB bZ bP bQ ∧ True) else (if x2 = 4 then (k_X6_parcelCharge x1 1 rK rL rG pS bA bB bZ bP bQ ∧ True) else True))))))
theorem hd_X6_parcel : yX6_parcel.cls ≠ "java/lang/invoke/MethodHandle" ∧ yX6_parcel.cls ≠ "java/lang/invoke/VarHandle" ∧ (parseMethodDescriptor yX6_parcel.desc).map (fun d => d.parameters.length) = some 2 := by decide +kernel
set_option maxHeartbeats 4000000 in
set_option maxRecDepth 100000 in
theorem c_X6_parcel (l : Launch) (G : BGT) (q_x q_t q_b q_d q_e q_r q_s q_p q_bA q_bB q_bZ q_bG q_bP q_bQ q_rK q_rL q_rG q_pS q_pE : Nat) (xF : Int32) (bC : Int32) (bM : Int32) (bL : Int32) (bD : Int32) (bA : Nat → Int32) (bB : Nat → Int32) (bZ : Nat → Int32) (bP : Nat → Int32) (bQ : Nat → Int32) (rK : Nat → Int32) (rL : Nat → Int32) (rG : Nat → Int32) (pN : Int32) (pK : Int32) (pS : Nat → Int32) (x1 : Int32) (x2 : Int32) (hk : k_X6_parcel x1 x2 rK rL rG pS bA bB bZ bP bQ) : RO l yX6_parcel wsX6_parcel 5 G [oX6 q_x q_t q_b q_d q_e q_r q_s q_p xF, oX0 q_b q_bA q_bB q_bZ q_bG q_bP q_bQ bC bM bL bD, aI G q_bA 18 bA, aI G q_bB 60 bB, aI G q_bZ 45 bZ, aI G q_bP 3 bP, aI G q_bQ 3 bQ, oX2 q_r q_b q_rK q_rL q_rG, aI G q_rK 256 rK, aI G q_rL 256 rL, aI G q_rG 3 rG, oX1 q_p q_pS q_pE pN pK, aI G q_pS 26 pS] [.ref q_x, .int x1, .int x2] (some (.int (f_X6_parcel x1 x2 rK rL rG pS bA bB bZ bP bQ))) := by
  refine RO.ofW (cc := cX6_parcel) (maxL := 3) (ret := (some .int)) (C := RX6) (by decide) rfl rfl (Nat.le_of_ble_eq_true rfl) ?_
  intro p e s m args below meth c Q ls hx hb hml hts hown hP hB hl fi fl fv
  have hS : va_S (fun _ => False) s.heap s.heap [] := va_S.rf
  have hl : lv_has ls 3 [(0, .ref q_x), (1, .int x1), (2, .int x2)] := hl
  have t_0 := hts (.fieldLink RX6 56 "ParcelSplit" "plan" "LParcelSplit$Plan;") (by decide +kernel)
  have i_X6 : ∀ w ∈ wsX60, w ∈ wsX6_parcel := by decide +kernel
  rw [k_X6_parcel] at hk
  refine lv_iload_n hx hb dX6_parcel_0 rfl (lv_at hl 1 rfl) ?_
  refine ro_S (As := [.int x1]) (rest := []) (c_X6_isParcel l G x1) [] rfl gX6_parcel_X6_isParcel ⟨_, rfl⟩ hd_X6_isParcel dX6_parcel_1 rfl rfl (Nat.le_of_ble_eq_true rfl) ⟨Nat.le_of_ble_eq_true rfl, Nat.le_of_ble_eq_true rfl⟩ ⟨Nat.le_refl 0, Nat.le_refl 0⟩ hx hb hml hown hts hB hS hP hl.1 ?_
  refine W.eq (g2 := F0 m 4 ls [.int (f_X6_isParcel x1)]) rfl ?_
  refine lv_if_ne (tgt := 10) hx hb dX6_parcel_4 (by decide) (fun c_1 => ?_) (fun c_1 => ?_)
  · rw [if_neg c_1] at hk
    refine lv_iload_n hx hb dX6_parcel_10 rfl (lv_at hl 2 rfl) ?_
    by_cases c_2 : x2 = 0
    · rw [if_pos c_2] at hk
      refine lv_tableIn (tgt := 44) (off := 33) hx hb dX6_parcel_11 (by rw [c_2]; decide) (by rw [c_2]; decide) (by rw [c_2]; rfl) (by decide) ?_
      refine lv_aload_n hx hb dX6_parcel_44 rfl (lv_at hl 0 rfl) ?_
      refine va_get (D := gD G) (ci := 6) (v := .ref q_p) (C := RX6) (T := TX6) (N := 8) hx hb hts i_X6 hown hB.1 hP 0 rfl rfl 6 (by decide) t_0 (fun _ h9 => h9) rfl dX6_parcel_45 ?_
      refine lv_iload_n hx hb dX6_parcel_48 rfl (lv_at hl 1 rfl) ?_
      obtain ⟨o_3, hk⟩ := hk
      refine ro_V (ci := 1) (q0 := 11) (As := [.int x1]) (rest := []) (c_X1_goodsIn l G q_p q_pS q_pE pN pK pS x1 o_3) [11, 12] rfl rfl rfl rfl gX6_parcel_X1_goodsIn ⟨_, rfl⟩ hd_X1_goodsIn rfl dX6_parcel_49 rfl rfl (Nat.le_of_ble_eq_true rfl) ⟨Nat.le_of_ble_eq_true rfl, Nat.le_of_ble_eq_true rfl⟩ ⟨Nat.le_refl 0, Nat.le_refl 0⟩ hx hb hml hown hts hB hS hP hl.1 ?_
      refine W.eq (g2 := F0 m 52 ls [.int (f_X1_goodsIn x1 pS)]) rfl ?_
      exact fi 52 _ (f_X1_goodsIn x1 pS) .int rfl rfl dX6_parcel_52 (by rw [f_X6_parcel, if_neg c_1, if_pos c_2])
    · rw [if_neg c_2] at hk
      by_cases c_4 : x2 = 1
      · rw [if_pos c_4] at hk
        refine lv_tableIn (tgt := 53) (off := 42) hx hb dX6_parcel_11 (by rw [c_4]; decide) (by rw [c_4]; decide) (by rw [c_4]; rfl) (by decide) ?_
        refine lv_aload_n hx hb dX6_parcel_53 rfl (lv_at hl 0 rfl) ?_
        refine va_get (D := gD G) (ci := 6) (v := .ref q_p) (C := RX6) (T := TX6) (N := 8) hx hb hts i_X6 hown hB.1 hP 0 rfl rfl 6 (by decide) t_0 (fun _ h9 => h9) rfl dX6_parcel_54 ?_
        refine lv_iload_n hx hb dX6_parcel_57 rfl (lv_at hl 1 rfl) ?_
        refine ro_V (ci := 1) (q0 := 11) (As := [.int x1]) (rest := []) (c_X1_carrierOf l G q_p q_pS q_pE pN pK pS x1) [11, 12] rfl rfl rfl rfl gX6_parcel_X1_carrierOf ⟨_, rfl⟩ hd_X1_carrierOf rfl dX6_parcel_58 rfl rfl (Nat.le_of_ble_eq_true rfl) ⟨Nat.le_of_ble_eq_true rfl, Nat.le_of_ble_eq_true rfl⟩ ⟨Nat.le_refl 0, Nat.le_refl 0⟩ hx hb hml hown hts hB hS hP hl.1 ?_
        refine W.eq (g2 := F0 m 61 ls [.int (f_X1_carrierOf x1 pS)]) rfl ?_
        exact fi 61 _ (f_X1_carrierOf x1 pS) .int rfl rfl dX6_parcel_61 (by rw [f_X6_parcel, if_neg c_1, if_neg c_2, if_pos c_4])
      · rw [if_neg c_4] at hk
        by_cases c_5 : x2 = 2
        · rw [if_pos c_5] at hk
          refine lv_tableIn (tgt := 62) (off := 51) hx hb dX6_parcel_11 (by rw [c_5]; decide) (by rw [c_5]; decide) (by rw [c_5]; rfl) (by decide) ?_
          refine lv_aload_n hx hb dX6_parcel_62 rfl (lv_at hl 0 rfl) ?_
          refine va_get (D := gD G) (ci := 6) (v := .ref q_p) (C := RX6) (T := TX6) (N := 8) hx hb hts i_X6 hown hB.1 hP 0 rfl rfl 6 (by decide) t_0 (fun _ h9 => h9) rfl dX6_parcel_63 ?_
          refine lv_iload_n hx hb dX6_parcel_66 rfl (lv_at hl 1 rfl) ?_
          refine ro_V (ci := 1) (q0 := 11) (As := [.int x1]) (rest := []) (c_X1_claimedOf l G q_p q_pS q_pE pN pK pS x1) [11, 12] rfl rfl rfl rfl gX6_parcel_X1_claimedOf ⟨_, rfl⟩ hd_X1_claimedOf rfl dX6_parcel_67 rfl rfl (Nat.le_of_ble_eq_true rfl) ⟨Nat.le_of_ble_eq_true rfl, Nat.le_of_ble_eq_true rfl⟩ ⟨Nat.le_refl 0, Nat.le_refl 0⟩ hx hb hml hown hts hB hS hP hl.1 ?_
          refine W.eq (g2 := F0 m 70 ls [.int (f_X1_claimedOf x1 pS)]) rfl ?_
          refine lv_if_ne (tgt := 77) hx hb dX6_parcel_70 (by decide) (fun c_6 => ?_) (fun c_6 => ?_)
          · refine lv_aload_n hx hb dX6_parcel_77 rfl (lv_at hl 0 rfl) ?_
            refine va_get (D := gD G) (ci := 6) (v := .ref q_p) (C := RX6) (T := TX6) (N := 8) hx hb hts i_X6 hown hB.1 hP 0 rfl rfl 6 (by decide) t_0 (fun _ h9 => h9) rfl dX6_parcel_78 ?_
            refine lv_iload_n hx hb dX6_parcel_81 rfl (lv_at hl 1 rfl) ?_
            refine ro_V (ci := 1) (q0 := 11) (As := [.int x1]) (rest := []) (c_X1_claimedOf l G q_p q_pS q_pE pN pK pS x1) [11, 12] rfl rfl rfl rfl gX6_parcel_X1_claimedOf ⟨_, rfl⟩ hd_X1_claimedOf rfl dX6_parcel_82 rfl rfl (Nat.le_of_ble_eq_true rfl) ⟨Nat.le_of_ble_eq_true rfl, Nat.le_of_ble_eq_true rfl⟩ ⟨Nat.le_refl 0, Nat.le_refl 0⟩ hx hb hml hown hts hB hS hP hl.1 ?_
            refine W.eq (g2 := F0 m 85 ls [.int (f_X1_claimedOf x1 pS)]) rfl ?_
            exact fi 85 _ (f_X1_claimedOf x1 pS) .int rfl rfl dX6_parcel_85 (by rw [f_X6_parcel, if_neg c_1, if_neg c_2, if_neg c_4, if_pos c_5, if_neg c_6])
          · refine lv_iconst (v := (-1)) hx hb dX6_parcel_73 (by decide) ?_
            refine lv_goto (tgt := 85) hx hb dX6_parcel_74 (by decide) ?_
            exact fi 85 _ (-1) .int rfl rfl dX6_parcel_85 (by rw [f_X6_parcel, if_neg c_1, if_neg c_2, if_neg c_4, if_pos c_5, if_pos c_6])
        · rw [if_neg c_5] at hk
          by_cases c_7 : x2 = 3
          · rw [if_pos c_7] at hk
            refine lv_tableIn (tgt := 86) (off := 75) hx hb dX6_parcel_11 (by rw [c_7]; decide) (by rw [c_7]; decide) (by rw [c_7]; rfl) (by decide) ?_
            refine lv_aload_n hx hb dX6_parcel_86 rfl (lv_at hl 0 rfl) ?_
            refine lv_iload_n hx hb dX6_parcel_87 rfl (lv_at hl 1 rfl) ?_
            refine lv_iconst (v := 0) hx hb dX6_parcel_88 (by decide) ?_
            obtain ⟨o_8, hk⟩ := hk
            refine ro_V (ci := 6) (q0 := 0) (As := [.int x1, .int 0]) (rest := []) (c_X6_parcelCharge l G q_x q_t q_b q_d q_e q_r q_s q_p q_bA q_bB q_bZ q_bG q_bP q_bQ q_rK q_rL q_rG q_pS q_pE xF bC bM bL bD bA bB bZ bP bQ rK rL rG pN pK pS x1 0 o_8) [0, 1, 2, 3, 4, 5, 6, 7, 8, 9, 10, 11, 12] rfl rfl rfl rfl gX6_parcel_X6_parcelCharge ⟨_, rfl⟩ hd_X6_parcelCharge rfl dX6_parcel_89 rfl rfl (Nat.le_of_ble_eq_true rfl) ⟨Nat.le_of_ble_eq_true rfl, Nat.le_of_ble_eq_true rfl⟩ ⟨Nat.le_refl 0, Nat.le_refl 0⟩ hx hb hml hown hts hB hS hP hl.1 ?_
            refine W.eq (g2 := F0 m 92 ls [.int (f_X6_parcelCharge x1 0 rK rL rG pS bA bB bZ bP bQ)]) rfl ?_
            exact fi 92 _ (f_X6_parcelCharge x1 0 rK rL rG pS bA bB bZ bP bQ) .int rfl rfl dX6_parcel_92 (by rw [f_X6_parcel, if_neg c_1, if_neg c_2, if_neg c_4, if_neg c_5, if_pos c_7])
          · rw [if_neg c_7] at hk
            by_cases c_9 : x2 = 4
            · rw [if_pos c_9] at hk
              refine lv_tableIn (tgt := 93) (off := 82) hx hb dX6_parcel_11 (by rw [c_9]; decide) (by rw [c_9]; decide) (by rw [c_9]; rfl) (by decide) ?_
              refine lv_aload_n hx hb dX6_parcel_93 rfl (lv_at hl 0 rfl) ?_
              refine lv_iload_n hx hb dX6_parcel_94 rfl (lv_at hl 1 rfl) ?_
              refine lv_iconst (v := 1) hx hb dX6_parcel_95 (by decide) ?_
              obtain ⟨o_10, hk⟩ := hk
              refine ro_V (ci := 6) (q0 := 0) (As := [.int x1, .int 1]) (rest := []) (c_X6_parcelCharge l G q_x q_t q_b q_d q_e q_r q_s q_p q_bA q_bB q_bZ q_bG q_bP q_bQ q_rK q_rL q_rG q_pS q_pE xF bC bM bL bD bA bB bZ bP bQ rK rL rG pN pK pS x1 1 o_10) [0, 1, 2, 3, 4, 5, 6, 7, 8, 9, 10, 11, 12] rfl rfl rfl rfl gX6_parcel_X6_parcelCharge ⟨_, rfl⟩ hd_X6_parcelCharge rfl dX6_parcel_96 rfl rfl (Nat.le_of_ble_eq_true rfl) ⟨Nat.le_of_ble_eq_true rfl, Nat.le_of_ble_eq_true rfl⟩ ⟨Nat.le_refl 0, Nat.le_refl 0⟩ hx hb hml hown hts hB hS hP hl.1 ?_
              refine W.eq (g2 := F0 m 99 ls [.int (f_X6_parcelCharge x1 1 rK rL rG pS bA bB bZ bP bQ)]) rfl ?_
              exact fi 99 _ (f_X6_parcelCharge x1 1 rK rL rG pS bA bB bZ bP bQ) .int rfl rfl dX6_parcel_99 (by rw [f_X6_parcel, if_neg c_1, if_neg c_2, if_neg c_4, if_neg c_5, if_neg c_7, if_pos c_9])
            · rw [if_neg c_9] at hk
              refine lv_tableOut (tgt := 100) hx hb dX6_parcel_11 (sw_out 0 4 (fun k h1 h2 => by have h3 : k = 0 ∨ k = 1 ∨ k = 2 ∨ k = 3 ∨ k = 4 := (by omega); rcases h3 with rfl | rfl | rfl | rfl | rfl; exact c_2; exact c_4; exact c_5; exact c_7; exact c_9)) (by decide) ?_
              refine lv_bipush (v := (-100)) hx hb dX6_parcel_100 (by decide) ?_
              exact fi 102 _ (-100) .int rfl rfl dX6_parcel_102 (by rw [f_X6_parcel, if_neg c_1, if_neg c_2, if_neg c_4, if_neg c_5, if_neg c_7, if_neg c_9])
  · rw [if_pos c_1] at hk
    refine lv_bipush (v := (-100)) hx hb dX6_parcel_7 (by decide) ?_
    exact fi 9 _ (-100) .int rfl rfl dX6_parcel_9 (by rw [f_X6_parcel, if_pos c_1])

def f_X6_total_L15 (x1 : Int32) (rK : Nat → Int32) (rL : Nat → Int32) (rG : Nat → Int32) (pS : Nat → Int32) (bA : Nat → Int32) (bB : Nat → Int32) (bZ : Nat → Int32) (bP : Nat → Int32) (bQ : Nat → Int32) : Nat → Int32 → Int32 → Int32
  | 0, v2, v3 => 0
  | n + 1, v2, v3 => (if 8 ≤ v3 then v2 else (if x1 = 1 then (if 0 ≤ (f_X6_parcelCharge v3 1 rK rL rG pS bA bB bZ bP bQ) then f_X6_total_L15 x1 rK rL rG pS bA bB bZ bP bQ n (v2 + (f_X6_parcelCharge v3 1 rK rL rG pS bA bB bZ bP bQ)) (v3 + 1) else (-2)) else (if 0 ≤ (f_X6_parcelCharge v3 0 rK rL rG pS bA bB bZ bP bQ) then f_X6_total_L15 x1 rK rL rG pS bA bB bZ bP bQ n (v2 + (f_X6_parcelCharge v3 0 rK rL rG pS bA bB bZ bP bQ)) (v3 + 1) else (-2))))
def k_X6_total_L15 (x1 : Int32) (rK : Nat → Int32) (rL : Nat → Int32) (rG : Nat → Int32) (pS : Nat → Int32) (bA : Nat → Int32) (bB : Nat → Int32) (bZ : Nat → Int32) (bP : Nat → Int32) (bQ : Nat → Int32) : Nat → Int32 → Int32 → Prop
  | 0, _, _ => False
  | n + 1, v2, v3 => (if 8 ≤ v3 then True else (if x1 = 1 then (k_X6_parcelCharge v3 1 rK rL rG pS bA bB bZ bP bQ ∧ (if 0 ≤ (f_X6_parcelCharge v3 1 rK rL rG pS bA bB bZ bP bQ) then k_X6_total_L15 x1 rK rL rG pS bA bB bZ bP bQ n (v2 + (f_X6_parcelCharge v3 1 rK rL rG pS bA bB bZ bP bQ)) (v3 + 1) else True)) else (k_X6_parcelCharge v3 0 rK rL rG pS bA bB bZ bP bQ ∧ (if 0 ≤ (f_X6_parcelCharge v3 0 rK rL rG pS bA bB bZ bP bQ) then k_X6_total_L15 x1 rK rL rG pS bA bB bZ bP bQ n (v2 + (f_X6_parcelCharge v3 0 rK rL rG pS bA bB bZ bP bQ)) (v3 + 1) else True))))
def f_X6_total (x1 : Int32) (rK : Nat → Int32) (rL : Nat → Int32) (rG : Nat → Int32) (pS : Nat → Int32) (bA : Nat → Int32) (bB : Nat → Int32) (bZ : Nat → Int32) (bP : Nat → Int32) (bQ : Nat → Int32) : Int32 := (if x1 < 0 then (-1) else (if x1 ≤ 1 then f_X6_total_L15 x1 rK rL rG pS bA bB bZ bP bQ FU 0 0 else (-1)))
def k_X6_total (x1 : Int32) (rK : Nat → Int32) (rL : Nat → Int32) (rG : Nat → Int32) (pS : Nat → Int32) (bA : Nat → Int32) (bB : Nat → Int32) (bZ : Nat → Int32) (bP : Nat → Int32) (bQ : Nat → Int32) : Prop := (if x1 < 0 then True else (if x1 ≤ 1 then k_X6_total_L15 x1 rK rL rG pS bA bB bZ bP bQ FU 0 0 else True))
theorem hd_X6_total : yX6_total.cls ≠ "java/lang/invoke/MethodHandle" ∧ yX6_total.cls ≠ "java/lang/invoke/VarHandle" ∧ (parseMethodDescriptor yX6_total.desc).map (fun d => d.parameters.length) = some 1 := by decide +kernel
set_option maxHeartbeats 4000000 in
set_option maxRecDepth 100000 in
theorem c_X6_total (l : Launch) (G : BGT) (q_x q_t q_b q_d q_e q_r q_s q_p q_bA q_bB q_bZ q_bG q_bP q_bQ q_rK q_rL q_rG q_pS q_pE : Nat) (xF : Int32) (bC : Int32) (bM : Int32) (bL : Int32) (bD : Int32) (bA : Nat → Int32) (bB : Nat → Int32) (bZ : Nat → Int32) (bP : Nat → Int32) (bQ : Nat → Int32) (rK : Nat → Int32) (rL : Nat → Int32) (rG : Nat → Int32) (pN : Int32) (pK : Int32) (pS : Nat → Int32) (x1 : Int32) (hk : k_X6_total x1 rK rL rG pS bA bB bZ bP bQ) : RO l yX6_total wsX6_total 5 G [oX6 q_x q_t q_b q_d q_e q_r q_s q_p xF, oX0 q_b q_bA q_bB q_bZ q_bG q_bP q_bQ bC bM bL bD, aI G q_bA 18 bA, aI G q_bB 60 bB, aI G q_bZ 45 bZ, aI G q_bP 3 bP, aI G q_bQ 3 bQ, oX2 q_r q_b q_rK q_rL q_rG, aI G q_rK 256 rK, aI G q_rL 256 rL, aI G q_rG 3 rG, oX1 q_p q_pS q_pE pN pK, aI G q_pS 26 pS] [.ref q_x, .int x1] (some (.int (f_X6_total x1 rK rL rG pS bA bB bZ bP bQ))) := by
  refine RO.ofW (cc := cX6_total) (maxL := 5) (ret := (some .int)) (C := RX6) (by decide) rfl rfl (Nat.le_of_ble_eq_true rfl) ?_
  intro p e s m args below meth c Q ls hx hb hml hts hown hP hB hl fi fl fv
  have hS : va_S (fun _ => False) s.heap s.heap [] := va_S.rf
  have hl : lv_has ls 5 [(0, .ref q_x), (1, .int x1)] := hl
  have T15 : ∀ (n : Nat) (v2 : Int32) (v3 : Int32), k_X6_total_L15 x1 rK rL rG pS bA bB bZ bP bQ n v2 v3 → f_X6_total x1 rK rL rG pS bA bB bZ bP bQ = f_X6_total_L15 x1 rK rL rG pS bA bB bZ bP bQ n v2 v3 → ∀ (ls : Array Slot), lv_has ls 5 [(0, .ref q_x), (1, .int x1), (2, .int v2), (3, .int v3)] → W p l e (rm 5) s m args below meth c s.heap [] 0 0 Q (F0 m 15 ls []) := by
    intro n
    induction n with
    | zero => intro v2 v3 hk; exact (hk : False).elim
    | succ n ih =>
      intro v2 v3 hk hv ls hl
      rw [k_X6_total_L15] at hk
      refine lv_iload_n hx hb dX6_total_15 rfl (lv_at hl 3 rfl) ?_
      refine lv_bipush (v := 8) hx hb dX6_total_16 (by decide) ?_
      refine lv_icmp_ge (tgt := 57) hx hb dX6_total_18 (by decide) (fun c_3 => ?_) (fun c_3 => ?_)
      · rw [if_pos c_3] at hk
        refine lv_iload_n hx hb dX6_total_57 rfl (lv_at hl 2 rfl) ?_
        exact fi 58 _ v2 .int rfl rfl dX6_total_58 (by rw [hv, f_X6_total_L15, if_pos c_3])
      · rw [if_neg c_3] at hk
        refine lv_aload_n hx hb dX6_total_21 rfl (lv_at hl 0 rfl) ?_
        refine lv_iload_n hx hb dX6_total_22 rfl (lv_at hl 3 rfl) ?_
        refine lv_iload_n hx hb dX6_total_23 rfl (lv_at hl 1 rfl) ?_
        refine lv_iconst (v := 1) hx hb dX6_total_24 (by decide) ?_
        refine lv_icmp_ne (tgt := 32) hx hb dX6_total_25 (by decide) (fun c_4 => ?_) (fun c_4 => ?_)
        · rw [if_neg c_4] at hk
          refine lv_iconst (v := 0) hx hb dX6_total_32 (by decide) ?_
          obtain ⟨o_5, hk⟩ := hk
          refine ro_V (ci := 6) (q0 := 0) (As := [.int v3, .int 0]) (rest := []) (c_X6_parcelCharge l G q_x q_t q_b q_d q_e q_r q_s q_p q_bA q_bB q_bZ q_bG q_bP q_bQ q_rK q_rL q_rG q_pS q_pE xF bC bM bL bD bA bB bZ bP bQ rK rL rG pN pK pS v3 0 o_5) [0, 1, 2, 3, 4, 5, 6, 7, 8, 9, 10, 11, 12] rfl rfl rfl rfl gX6_total_X6_parcelCharge ⟨_, rfl⟩ hd_X6_parcelCharge rfl dX6_total_33 rfl rfl (Nat.le_of_ble_eq_true rfl) ⟨Nat.le_of_ble_eq_true rfl, Nat.le_of_ble_eq_true rfl⟩ ⟨Nat.le_refl 0, Nat.le_refl 0⟩ hx hb hml hown hts hB hS hP hl.1 ?_
          refine W.eq (g2 := F0 m 36 ls [.int (f_X6_parcelCharge v3 0 rK rL rG pS bA bB bZ bP bQ)]) rfl ?_
          refine lv_istore (lv' := [(4, .int (f_X6_parcelCharge v3 0 rK rL rG pS bA bB bZ bP bQ)), (0, .ref q_x), (1, .int x1), (2, .int v2), (3, .int v3)]) hx hb dX6_total_36 hl (by decide) rfl (fun ls hl => ?_)
          refine lv_iload hx hb dX6_total_38 (lv_at hl 0 rfl) ?_
          refine lv_if_ge (tgt := 46) hx hb dX6_total_40 (by decide) (fun c_6 => ?_) (fun c_6 => ?_)
          · rw [if_pos c_6] at hk
            refine lv_iload_n hx hb dX6_total_46 rfl (lv_at hl 3 rfl) ?_
            refine lv_iload hx hb dX6_total_47 (lv_at hl 0 rfl) ?_
            refine lv_iadd hx hb dX6_total_49 ?_
            refine lv_istore_n (lv' := [(2, .int (v2 + (f_X6_parcelCharge v3 0 rK rL rG pS bA bB bZ bP bQ))), (4, .int (f_X6_parcelCharge v3 0 rK rL rG pS bA bB bZ bP bQ)), (0, .ref q_x), (1, .int x1), (3, .int v3)]) hx hb dX6_total_50 rfl hl (by decide) rfl (fun ls hl => ?_)
            refine lv_iinc (v := (v3 + 1)) (lv' := [(3, .int (v3 + 1)), (2, .int (v2 + (f_X6_parcelCharge v3 0 rK rL rG pS bA bB bZ bP bQ))), (4, .int (f_X6_parcelCharge v3 0 rK rL rG pS bA bB bZ bP bQ)), (0, .ref q_x), (1, .int x1)]) hx hb dX6_total_51 hl (k := 4) rfl (by rfl) (by decide) rfl (fun ls hl => ?_)
            refine lv_goto (tgt := 15) hx hb dX6_total_54 (by decide) ?_
            exact ih (v2 + (f_X6_parcelCharge v3 0 rK rL rG pS bA bB bZ bP bQ)) (v3 + 1) hk (hv.trans (by rw [f_X6_total_L15, if_neg c_3, if_neg c_4, if_pos c_6])) ls (lv_sub hl [3, 4, 1, 0] rfl)
          · rw [if_neg c_6] at hk
            refine lv_bipush (v := (-2)) hx hb dX6_total_43 (by decide) ?_
            exact fi 45 _ (-2) .int rfl rfl dX6_total_45 (by rw [hv, f_X6_total_L15, if_neg c_3, if_neg c_4, if_neg c_6])
        · rw [if_pos c_4] at hk
          refine lv_iconst (v := 1) hx hb dX6_total_28 (by decide) ?_
          refine lv_goto (tgt := 33) hx hb dX6_total_29 (by decide) ?_
          obtain ⟨o_7, hk⟩ := hk
          refine ro_V (ci := 6) (q0 := 0) (As := [.int v3, .int 1]) (rest := []) (c_X6_parcelCharge l G q_x q_t q_b q_d q_e q_r q_s q_p q_bA q_bB q_bZ q_bG q_bP q_bQ q_rK q_rL q_rG q_pS q_pE xF bC bM bL bD bA bB bZ bP bQ rK rL rG pN pK pS v3 1 o_7) [0, 1, 2, 3, 4, 5, 6, 7, 8, 9, 10, 11, 12] rfl rfl rfl rfl gX6_total_X6_parcelCharge ⟨_, rfl⟩ hd_X6_parcelCharge rfl dX6_total_33 rfl rfl (Nat.le_of_ble_eq_true rfl) ⟨Nat.le_of_ble_eq_true rfl, Nat.le_of_ble_eq_true rfl⟩ ⟨Nat.le_refl 0, Nat.le_refl 0⟩ hx hb hml hown hts hB hS hP hl.1 ?_
          refine W.eq (g2 := F0 m 36 ls [.int (f_X6_parcelCharge v3 1 rK rL rG pS bA bB bZ bP bQ)]) rfl ?_
          refine lv_istore (lv' := [(4, .int (f_X6_parcelCharge v3 1 rK rL rG pS bA bB bZ bP bQ)), (0, .ref q_x), (1, .int x1), (2, .int v2), (3, .int v3)]) hx hb dX6_total_36 hl (by decide) rfl (fun ls hl => ?_)
          refine lv_iload hx hb dX6_total_38 (lv_at hl 0 rfl) ?_
          refine lv_if_ge (tgt := 46) hx hb dX6_total_40 (by decide) (fun c_8 => ?_) (fun c_8 => ?_)
          · rw [if_pos c_8] at hk
            refine lv_iload_n hx hb dX6_total_46 rfl (lv_at hl 3 rfl) ?_
            refine lv_iload hx hb dX6_total_47 (lv_at hl 0 rfl) ?_
            refine lv_iadd hx hb dX6_total_49 ?_
            refine lv_istore_n (lv' := [(2, .int (v2 + (f_X6_parcelCharge v3 1 rK rL rG pS bA bB bZ bP bQ))), (4, .int (f_X6_parcelCharge v3 1 rK rL rG pS bA bB bZ bP bQ)), (0, .ref q_x), (1, .int x1), (3, .int v3)]) hx hb dX6_total_50 rfl hl (by decide) rfl (fun ls hl => ?_)
            refine lv_iinc (v := (v3 + 1)) (lv' := [(3, .int (v3 + 1)), (2, .int (v2 + (f_X6_parcelCharge v3 1 rK rL rG pS bA bB bZ bP bQ))), (4, .int (f_X6_parcelCharge v3 1 rK rL rG pS bA bB bZ bP bQ)), (0, .ref q_x), (1, .int x1)]) hx hb dX6_total_51 hl (k := 4) rfl (by rfl) (by decide) rfl (fun ls hl => ?_)
            refine lv_goto (tgt := 15) hx hb dX6_total_54 (by decide) ?_
            exact ih (v2 + (f_X6_parcelCharge v3 1 rK rL rG pS bA bB bZ bP bQ)) (v3 + 1) hk (hv.trans (by rw [f_X6_total_L15, if_neg c_3, if_pos c_4, if_pos c_8])) ls (lv_sub hl [3, 4, 1, 0] rfl)
          · rw [if_neg c_8] at hk
            refine lv_bipush (v := (-2)) hx hb dX6_total_43 (by decide) ?_
            exact fi 45 _ (-2) .int rfl rfl dX6_total_45 (by rw [hv, f_X6_total_L15, if_neg c_3, if_pos c_4, if_neg c_8])
  rw [k_X6_total] at hk
  refine lv_iload_n hx hb dX6_total_0 rfl (lv_at hl 1 rfl) ?_
  refine lv_if_lt (tgt := 9) hx hb dX6_total_1 (by decide) (fun c_1 => ?_) (fun c_1 => ?_)
  · rw [if_pos c_1] at hk
    refine lv_iconst (v := (-1)) hx hb dX6_total_9 (by decide) ?_
    exact fi 10 _ (-1) .int rfl rfl dX6_total_10 (by rw [f_X6_total, if_pos c_1])
  · rw [if_neg c_1] at hk
    refine lv_iload_n hx hb dX6_total_4 rfl (lv_at hl 1 rfl) ?_
    refine lv_iconst (v := 1) hx hb dX6_total_5 (by decide) ?_
    refine lv_icmp_le (tgt := 11) hx hb dX6_total_6 (by decide) (fun c_2 => ?_) (fun c_2 => ?_)
    · rw [if_pos c_2] at hk
      refine lv_iconst (v := 0) hx hb dX6_total_11 (by decide) ?_
      refine lv_istore_n (lv' := [(2, .int 0), (0, .ref q_x), (1, .int x1)]) hx hb dX6_total_12 rfl hl (by decide) rfl (fun ls hl => ?_)
      refine lv_iconst (v := 0) hx hb dX6_total_13 (by decide) ?_
      refine lv_istore_n (lv' := [(3, .int 0), (2, .int 0), (0, .ref q_x), (1, .int x1)]) hx hb dX6_total_14 rfl hl (by decide) rfl (fun ls hl => ?_)
      exact T15 FU 0 0 hk (by rw [f_X6_total, if_neg c_1, if_pos c_2]) ls (lv_sub hl [2, 3, 1, 0] rfl)
    · rw [if_neg c_2] at hk
      refine lv_iconst (v := (-1)) hx hb dX6_total_9 (by decide) ?_
      exact fi 10 _ (-1) .int rfl rfl dX6_total_10 (by rw [f_X6_total, if_neg c_1, if_neg c_2])

def f_X6_would (x1 : Int32) (x2 : Int32) (rK : Nat → Int32) (rL : Nat → Int32) (rG : Nat → Int32) (sZ : Nat → Int32) (sR : Nat → Int64) (sO : Nat → Int32) (sL : Nat → Int32) (sW : Nat → Int64) (sU : Nat → Int64) (bA : Nat → Int32) (bB : Nat → Int32) (bZ : Nat → Int32) (bP : Nat → Int32) (bQ : Nat → Int32) (bC : Int32) (bM : Int32) : Int32 × (Nat → Int32) × (Nat → Int64) × (Nat → Int32) × (Nat → Int32) × (Nat → Int64) := (if (f_X6_isOrder x1 x2) = 0 then ((-1), sZ, sR, sO, sL, sW) else (((f_X4_leastCharge x1 x2 rK rL rG sZ sR sO sL sW sU bA bB bZ bP bQ bC bM).1), ((f_X4_leastCharge x1 x2 rK rL rG sZ sR sO sL sW sU bA bB bZ bP bQ bC bM).2.1), ((f_X4_leastCharge x1 x2 rK rL rG sZ sR sO sL sW sU bA bB bZ bP bQ bC bM).2.2.1), ((f_X4_leastCharge x1 x2 rK rL rG sZ sR sO sL sW sU bA bB bZ bP bQ bC bM).2.2.2.1), ((f_X4_leastCharge x1 x2 rK rL rG sZ sR sO sL sW sU bA bB bZ bP bQ bC bM).2.2.2.2.1), ((f_X4_leastCharge x1 x2 rK rL rG sZ sR sO sL sW sU bA bB bZ bP bQ bC bM).2.2.2.2.2)))
def k_X6_would (x1 : Int32) (x2 : Int32) (rK : Nat → Int32) (rL : Nat → Int32) (rG : Nat → Int32) (sZ : Nat → Int32) (sO : Nat → Int32) (sL : Nat → Int32) (sW : Nat → Int64) (sU : Nat → Int64) (bA : Nat → Int32) (bB : Nat → Int32) (bZ : Nat → Int32) (bP : Nat → Int32) (bQ : Nat → Int32) (bC : Int32) (bM : Int32) : Prop := (if (f_X6_isOrder x1 x2) = 0 then True else (k_X4_leastCharge x1 x2 rK rL rG sZ sO sL sW sU bA bB bZ bP bQ bC bM ∧ True))
theorem hd_X6_would : yX6_would.cls ≠ "java/lang/invoke/MethodHandle" ∧ yX6_would.cls ≠ "java/lang/invoke/VarHandle" ∧ (parseMethodDescriptor yX6_would.desc).map (fun d => d.parameters.length) = some 2 := by decide +kernel
set_option maxHeartbeats 4000000 in
set_option maxRecDepth 100000 in
theorem c_X6_would (l : Launch) (G : BGT) (q_x q_t q_b q_d q_e q_r q_s q_p q_bA q_bB q_bZ q_bG q_bP q_bQ q_rK q_rL q_rG q_sZ q_sR q_sO q_sL q_sW q_sU : Nat) (xF : Int32) (bC : Int32) (bM : Int32) (bL : Int32) (bD : Int32) (bA : Nat → Int32) (bB : Nat → Int32) (bZ : Nat → Int32) (bP : Nat → Int32) (bQ : Nat → Int32) (rK : Nat → Int32) (rL : Nat → Int32) (rG : Nat → Int32) (sZ : Nat → Int32) (sR : Nat → Int64) (sO : Nat → Int32) (sL : Nat → Int32) (sW : Nat → Int64) (sU : Nat → Int64) (x1 : Int32) (x2 : Int32) (hk : k_X6_would x1 x2 rK rL rG sZ sO sL sW sU bA bB bZ bP bQ bC bM) : WR l yX6_would wsX6_would 7 G [oX6 q_x q_t q_b q_d q_e q_r q_s q_p xF, oX0 q_b q_bA q_bB q_bZ q_bG q_bP q_bQ bC bM bL bD, aI G q_bA 18 bA, aI G q_bB 60 bB, aI G q_bZ 45 bZ, aI G q_bP 3 bP, aI G q_bQ 3 bQ, oX2 q_r q_b q_rK q_rL q_rG, aI G q_rK 256 rK, aI G q_rL 256 rL, aI G q_rG 3 rG, oX4 q_s q_b q_r q_sZ q_sR q_sO q_sL q_sW q_sU, aI G q_sZ 64 sZ, aJ G q_sR 64 sR, aI G q_sO 256 sO, aI G q_sL 256 sL, aJ G q_sW 256 sW, aJ G q_sU 256 sU] [oX6 q_x q_t q_b q_d q_e q_r q_s q_p xF, oX0 q_b q_bA q_bB q_bZ q_bG q_bP q_bQ bC bM bL bD, aI G q_bA 18 bA, aI G q_bB 60 bB, aI G q_bZ 45 bZ, aI G q_bP 3 bP, aI G q_bQ 3 bQ, oX2 q_r q_b q_rK q_rL q_rG, aI G q_rK 256 rK, aI G q_rL 256 rL, aI G q_rG 3 rG, oX4 q_s q_b q_r q_sZ q_sR q_sO q_sL q_sW q_sU, aI G q_sZ 64 ((f_X6_would x1 x2 rK rL rG sZ sR sO sL sW sU bA bB bZ bP bQ bC bM).2.1), aJ G q_sR 64 ((f_X6_would x1 x2 rK rL rG sZ sR sO sL sW sU bA bB bZ bP bQ bC bM).2.2.1), aI G q_sO 256 ((f_X6_would x1 x2 rK rL rG sZ sR sO sL sW sU bA bB bZ bP bQ bC bM).2.2.2.1), aI G q_sL 256 ((f_X6_would x1 x2 rK rL rG sZ sR sO sL sW sU bA bB bZ bP bQ bC bM).2.2.2.2.1), aJ G q_sW 256 ((f_X6_would x1 x2 rK rL rG sZ sR sO sL sW sU bA bB bZ bP bQ bC bM).2.2.2.2.2), aJ G q_sU 256 sU] [.ref q_x, .int x1, .int x2] (some (.int ((f_X6_would x1 x2 rK rL rG sZ sR sO sL sW sU bA bB bZ bP bQ bC bM).1))) := by
  refine WR.ofW (cc := cX6_would) (maxL := 3) (ret := (some .int)) (C := RX6) (by decide) rfl rfl (Nat.le_of_ble_eq_true rfl) ?_
  intro p e s m args below meth c Q ls A hx hb hml hts hown hP hD hS hA hB hl fi fv
  have hl : lv_has ls 3 [(0, .ref q_x), (1, .int x1), (2, .int x2)] := hl
  have t_0 := hts (.fieldLink RX6 49 "ParcelSplit" "splitter" "LParcelSplit$Splitter;") (by decide +kernel)
  have i_X6 : ∀ w ∈ wsX60, w ∈ wsX6_would := by decide +kernel
  rw [k_X6_would] at hk
  refine lv_iload_n hx hb dX6_would_0 rfl (lv_at hl 1 rfl) ?_
  refine lv_iload_n hx hb dX6_would_1 rfl (lv_at hl 2 rfl) ?_
  refine ro_S (As := [.int x1, .int x2]) (rest := []) (c_X6_isOrder l G x1 x2) [] rfl gX6_would_X6_isOrder ⟨_, rfl⟩ hd_X6_isOrder dX6_would_2 rfl rfl (Nat.le_of_ble_eq_true rfl) ⟨Nat.le_of_ble_eq_true rfl, Nat.le_of_ble_eq_true rfl⟩ ⟨Nat.le_refl 0, Nat.le_refl 0⟩ hx hb hml hown hts hB hS hP hl.1 ?_
  refine W.eq (g2 := F0 m 5 ls [.int (f_X6_isOrder x1 x2)]) rfl ?_
  refine lv_if_eq (tgt := 20) hx hb dX6_would_5 (by decide) (fun c_1 => ?_) (fun c_1 => ?_)
  · rw [if_pos c_1] at hk
    refine lv_iconst (v := (-1)) hx hb dX6_would_20 (by decide) ?_
    have e9 : f_X6_would x1 x2 rK rL rG sZ sR sO sL sW sU bA bB bZ bP bQ bC bM = ((-1), sZ, sR, sO, sL, sW) := by rw [f_X6_would, if_pos c_1]
    exact fi 21 _ (-1) .int _ _ rfl rfl dX6_would_21 (by simp only [e9]) (by rw [e9]; exact hP) (by rw [e9]; exact hD) hS
  · rw [if_neg c_1] at hk
    refine lv_aload_n hx hb dX6_would_8 rfl (lv_at hl 0 rfl) ?_
    refine va_get (D := gD G) (ci := 6) (v := .ref q_s) (C := RX6) (T := TX6) (N := 8) hx hb hts i_X6 hown hB.1 hP 0 rfl rfl 5 (by decide) t_0 (fun _ h9 => h9) rfl dX6_would_9 ?_
    refine lv_iload_n hx hb dX6_would_12 rfl (lv_at hl 1 rfl) ?_
    refine lv_iload_n hx hb dX6_would_13 rfl (lv_at hl 2 rfl) ?_
    obtain ⟨o_2, hk⟩ := hk
    refine wr_V (ci := 4) (q0 := 11) (As := [.int x1, .int x2]) (rest := []) (wr := [oX6 q_x q_t q_b q_d q_e q_r q_s q_p xF]) (wf := [oX6 q_x q_t q_b q_d q_e q_r q_s q_p xF, oX0 q_b q_bA q_bB q_bZ q_bG q_bP q_bQ bC bM bL bD, aI G q_bA 18 bA, aI G q_bB 60 bB, aI G q_bZ 45 bZ, aI G q_bP 3 bP, aI G q_bQ 3 bQ, oX2 q_r q_b q_rK q_rL q_rG, aI G q_rK 256 rK, aI G q_rL 256 rL, aI G q_rG 3 rG, oX4 q_s q_b q_r q_sZ q_sR q_sO q_sL q_sW q_sU, aI G q_sZ 64 ((f_X4_leastCharge x1 x2 rK rL rG sZ sR sO sL sW sU bA bB bZ bP bQ bC bM).2.1), aJ G q_sR 64 ((f_X4_leastCharge x1 x2 rK rL rG sZ sR sO sL sW sU bA bB bZ bP bQ bC bM).2.2.1), aI G q_sO 256 ((f_X4_leastCharge x1 x2 rK rL rG sZ sR sO sL sW sU bA bB bZ bP bQ bC bM).2.2.2.1), aI G q_sL 256 ((f_X4_leastCharge x1 x2 rK rL rG sZ sR sO sL sW sU bA bB bZ bP bQ bC bM).2.2.2.2.1), aJ G q_sW 256 ((f_X4_leastCharge x1 x2 rK rL rG sZ sR sO sL sW sU bA bB bZ bP bQ bC bM).2.2.2.2.2), aJ G q_sU 256 sU]) (c_X4_leastCharge l G q_b q_bA q_bB q_bZ q_bG q_bP q_bQ q_r q_rK q_rL q_rG q_s q_sZ q_sR q_sO q_sL q_sW q_sU bC bM bL bD bA bB bZ bP bQ rK rL rG sZ sR sO sL sW sU x1 x2 o_2) [1, 2, 3, 4, 5, 6, 7, 8, 9, 10, 11, 12, 13, 14, 15, 16, 17] [0] [0, 1, 2, 3, 4, 5, 6, 7, 8, 9, 10, 11, 12, 13, 14, 15, 16, 17] rfl rfl rfl (by decide) rfl rfl rfl gX6_would_X4_leastCharge ⟨_, rfl⟩ hd_X4_leastCharge rfl dX6_would_14 rfl rfl (Nat.le_of_ble_eq_true rfl) ⟨Nat.le_of_ble_eq_true rfl, Nat.le_of_ble_eq_true rfl⟩ ⟨Nat.le_refl 0, Nat.le_refl 0⟩ hx hb hml hown hts hB hD hS hA hP hl.1 (fun H locs hP hD hS => ?_)
    refine W.eq (g2 := F0 m 17 ls [.int ((f_X4_leastCharge x1 x2 rK rL rG sZ sR sO sL sW sU bA bB bZ bP bQ bC bM).1)]) rfl ?_
    refine lv_goto (tgt := 21) hx hb dX6_would_17 (by decide) ?_
    have e9 : f_X6_would x1 x2 rK rL rG sZ sR sO sL sW sU bA bB bZ bP bQ bC bM = (((f_X4_leastCharge x1 x2 rK rL rG sZ sR sO sL sW sU bA bB bZ bP bQ bC bM).1), ((f_X4_leastCharge x1 x2 rK rL rG sZ sR sO sL sW sU bA bB bZ bP bQ bC bM).2.1), ((f_X4_leastCharge x1 x2 rK rL rG sZ sR sO sL sW sU bA bB bZ bP bQ bC bM).2.2.1), ((f_X4_leastCharge x1 x2 rK rL rG sZ sR sO sL sW sU bA bB bZ bP bQ bC bM).2.2.2.1), ((f_X4_leastCharge x1 x2 rK rL rG sZ sR sO sL sW sU bA bB bZ bP bQ bC bM).2.2.2.2.1), ((f_X4_leastCharge x1 x2 rK rL rG sZ sR sO sL sW sU bA bB bZ bP bQ bC bM).2.2.2.2.2)) := by rw [f_X6_would, if_neg c_1]
    exact fi 21 _ ((f_X4_leastCharge x1 x2 rK rL rG sZ sR sO sL sW sU bA bB bZ bP bQ bC bM).1) .int _ _ rfl rfl dX6_would_21 (by simp only [e9]) (by rw [e9]; exact hP) (by rw [e9]; exact hD) hS

def f_X6_put (x1 : Int32) (x2 : Int32) (pS : Nat → Int32) (pE : Nat → Int32) (pN : Int32) (pK : Int32) (bM : Int32) : Int32 × (Nat → Int32) × (Nat → Int32) × Int32 × Int32 := (if (f_X0_hasGood x1 bM) = 0 then ((-3), pS, pE, pN, pK) else (if x2 = (-1) then (if (f_X1_parcelOf x1 pS) = x2 then ((-2), pS, pE, pN, pK) else ((f_X1_parcelOf x1 pS), f_X1_moveGood x1 x2 pS, ((f_X1_keep pS pE pN pK).1), ((f_X1_keep pS pE pN pK).2.1), ((f_X1_keep pS pE pN pK).2.2))) else (if (f_X6_isParcel x2) = 0 then ((-3), pS, pE, pN, pK) else (if (f_X1_parcelOf x1 pS) = x2 then ((-2), pS, pE, pN, pK) else ((f_X1_parcelOf x1 pS), f_X1_moveGood x1 x2 pS, ((f_X1_keep pS pE pN pK).1), ((f_X1_keep pS pE pN pK).2.1), ((f_X1_keep pS pE pN pK).2.2))))))
def k_X6_put (x1 : Int32) (x2 : Int32) (pS : Nat → Int32) (pE : Nat → Int32) (pN : Int32) (bM : Int32) : Prop := (if (f_X0_hasGood x1 bM) = 0 then True else (if x2 = (-1) then (if (f_X1_parcelOf x1 pS) = x2 then True else (k_X1_keep pS pE pN ∧ (k_X1_moveGood x1 x2 pS ∧ True))) else (if (f_X6_isParcel x2) = 0 then True else (if (f_X1_parcelOf x1 pS) = x2 then True else (k_X1_keep pS pE pN ∧ (k_X1_moveGood x1 x2 pS ∧ True))))))
theorem hd_X6_put : yX6_put.cls ≠ "java/lang/invoke/MethodHandle" ∧ yX6_put.cls ≠ "java/lang/invoke/VarHandle" ∧ (parseMethodDescriptor yX6_put.desc).map (fun d => d.parameters.length) = some 2 := by decide +kernel
set_option maxHeartbeats 4000000 in
set_option maxRecDepth 100000 in
theorem c_X6_put (l : Launch) (G : BGT) (q_x q_t q_b q_d q_e q_r q_s q_p q_bA q_bB q_bZ q_bG q_bP q_bQ q_pS q_pE : Nat) (xF : Int32) (bC : Int32) (bM : Int32) (bL : Int32) (bD : Int32) (pN : Int32) (pK : Int32) (pS : Nat → Int32) (pE : Nat → Int32) (x1 : Int32) (x2 : Int32) (hk : k_X6_put x1 x2 pS pE pN bM) : WR l yX6_put wsX6_put 4 G [oX6 q_x q_t q_b q_d q_e q_r q_s q_p xF, oX0 q_b q_bA q_bB q_bZ q_bG q_bP q_bQ bC bM bL bD, oX1 q_p q_pS q_pE pN pK, aI G q_pS 26 pS, aI G q_pE 260 pE] [oX6 q_x q_t q_b q_d q_e q_r q_s q_p xF, oX0 q_b q_bA q_bB q_bZ q_bG q_bP q_bQ bC bM bL bD, oX1 q_p q_pS q_pE ((f_X6_put x1 x2 pS pE pN pK bM).2.2.2.1) ((f_X6_put x1 x2 pS pE pN pK bM).2.2.2.2), aI G q_pS 26 ((f_X6_put x1 x2 pS pE pN pK bM).2.1), aI G q_pE 260 ((f_X6_put x1 x2 pS pE pN pK bM).2.2.1)] [.ref q_x, .int x1, .int x2] (some (.int ((f_X6_put x1 x2 pS pE pN pK bM).1))) := by
  refine WR.ofW (cc := cX6_put) (maxL := 4) (ret := (some .int)) (C := RX6) (by decide) rfl rfl (Nat.le_of_ble_eq_true rfl) ?_
  intro p e s m args below meth c Q ls A hx hb hml hts hown hP hD hS hA hB hl fi fv
  have hl : lv_has ls 4 [(0, .ref q_x), (1, .int x1), (2, .int x2)] := hl
  have t_0 := hts (.fieldLink RX6 19 "ParcelSplit" "book" "LParcelSplit$Book;") (by decide +kernel)
  have t_1 := hts (.fieldLink RX6 56 "ParcelSplit" "plan" "LParcelSplit$Plan;") (by decide +kernel)
  have i_X6 : ∀ w ∈ wsX60, w ∈ wsX6_put := by decide +kernel
  rw [k_X6_put] at hk
  refine lv_aload_n hx hb dX6_put_0 rfl (lv_at hl 0 rfl) ?_
  refine va_get (D := gD G) (ci := 6) (v := .ref q_b) (C := RX6) (T := TX6) (N := 8) hx hb hts i_X6 hown hB.1 hP 0 rfl rfl 1 (by decide) t_0 (fun _ h9 => h9) rfl dX6_put_1 ?_
  refine lv_iload_n hx hb dX6_put_4 rfl (lv_at hl 1 rfl) ?_
  refine ro_V (ci := 0) (q0 := 1) (As := [.int x1]) (rest := []) (c_X0_hasGood l G q_b q_bA q_bB q_bZ q_bG q_bP q_bQ bC bM bL bD x1) [1] rfl rfl rfl rfl gX6_put_X0_hasGood ⟨_, rfl⟩ hd_X0_hasGood rfl dX6_put_5 rfl rfl (Nat.le_of_ble_eq_true rfl) ⟨Nat.le_of_ble_eq_true rfl, Nat.le_of_ble_eq_true rfl⟩ ⟨Nat.le_refl 0, Nat.le_refl 0⟩ hx hb hml hown hts hB hS hP hl.1 ?_
  refine W.eq (g2 := F0 m 8 ls [.int (f_X0_hasGood x1 bM)]) rfl ?_
  refine lv_if_eq (tgt := 23) hx hb dX6_put_8 (by decide) (fun c_1 => ?_) (fun c_1 => ?_)
  · rw [if_pos c_1] at hk
    refine lv_bipush (v := (-3)) hx hb dX6_put_23 (by decide) ?_
    have e9 : f_X6_put x1 x2 pS pE pN pK bM = ((-3), pS, pE, pN, pK) := by rw [f_X6_put, if_pos c_1]
    exact fi 25 _ (-3) .int _ _ rfl rfl dX6_put_25 (by simp only [e9]) (by rw [e9]; exact hP) (by rw [e9]; exact hD) hS
  · rw [if_neg c_1] at hk
    refine lv_iload_n hx hb dX6_put_11 rfl (lv_at hl 2 rfl) ?_
    refine lv_iconst (v := (-1)) hx hb dX6_put_12 (by decide) ?_
    refine lv_icmp_eq (tgt := 26) hx hb dX6_put_13 (by decide) (fun c_2 => ?_) (fun c_2 => ?_)
    · rw [if_pos c_2] at hk
      refine lv_aload_n hx hb dX6_put_26 rfl (lv_at hl 0 rfl) ?_
      refine va_get (D := gD G) (ci := 6) (v := .ref q_p) (C := RX6) (T := TX6) (N := 8) hx hb hts i_X6 hown hB.1 hP 0 rfl rfl 6 (by decide) t_1 (fun _ h9 => h9) rfl dX6_put_27 ?_
      refine lv_iload_n hx hb dX6_put_30 rfl (lv_at hl 1 rfl) ?_
      refine ro_V (ci := 1) (q0 := 2) (As := [.int x1]) (rest := []) (c_X1_parcelOf l G q_p q_pS q_pE pN pK pS x1) [2, 3] rfl rfl rfl rfl gX6_put_X1_parcelOf ⟨_, rfl⟩ hd_X1_parcelOf rfl dX6_put_31 rfl rfl (Nat.le_of_ble_eq_true rfl) ⟨Nat.le_of_ble_eq_true rfl, Nat.le_of_ble_eq_true rfl⟩ ⟨Nat.le_refl 0, Nat.le_refl 0⟩ hx hb hml hown hts hB hS hP hl.1 ?_
      refine W.eq (g2 := F0 m 34 ls [.int (f_X1_parcelOf x1 pS)]) rfl ?_
      refine lv_istore_n (lv' := [(3, .int (f_X1_parcelOf x1 pS)), (0, .ref q_x), (1, .int x1), (2, .int x2)]) hx hb dX6_put_34 rfl hl (by decide) rfl (fun ls hl => ?_)
      refine lv_iload_n hx hb dX6_put_35 rfl (lv_at hl 0 rfl) ?_
      refine lv_iload_n hx hb dX6_put_36 rfl (lv_at hl 3 rfl) ?_
      refine lv_icmp_ne (tgt := 43) hx hb dX6_put_37 (by decide) (fun c_3 => ?_) (fun c_3 => ?_)
      · rw [if_neg c_3] at hk
        refine lv_aload_n hx hb dX6_put_43 rfl (lv_at hl 1 rfl) ?_
        refine va_get (D := gD G) (ci := 6) (v := .ref q_p) (C := RX6) (T := TX6) (N := 8) hx hb hts i_X6 hown hB.1 hP 0 rfl rfl 6 (by decide) t_1 (fun _ h9 => h9) rfl dX6_put_44 ?_
        obtain ⟨o_4, hk⟩ := hk
        refine wr_V (ci := 1) (q0 := 2) (As := []) (rest := []) (wr := [oX6 q_x q_t q_b q_d q_e q_r q_s q_p xF, oX0 q_b q_bA q_bB q_bZ q_bG q_bP q_bQ bC bM bL bD]) (wf := [oX6 q_x q_t q_b q_d q_e q_r q_s q_p xF, oX0 q_b q_bA q_bB q_bZ q_bG q_bP q_bQ bC bM bL bD, oX1 q_p q_pS q_pE ((f_X1_keep pS pE pN pK).2.1) ((f_X1_keep pS pE pN pK).2.2), aI G q_pS 26 pS, aI G q_pE 260 ((f_X1_keep pS pE pN pK).1)]) (c_X1_keep l G q_p q_pS q_pE pN pK pS pE o_4) [2, 3, 4] [0, 1] [0, 1, 2, 3, 4] rfl rfl rfl (by decide) rfl rfl rfl gX6_put_X1_keep ⟨_, rfl⟩ hd_X1_keep rfl dX6_put_47 rfl rfl (Nat.le_of_ble_eq_true rfl) ⟨Nat.le_of_ble_eq_true rfl, Nat.le_of_ble_eq_true rfl⟩ ⟨Nat.le_refl 0, Nat.le_refl 0⟩ hx hb hml hown hts hB hD hS hA hP hl.1 (fun H locs hP hD hS => ?_)
        refine W.eq (g2 := F0 m 50 ls []) rfl ?_
        refine lv_aload_n hx hb dX6_put_50 rfl (lv_at hl 1 rfl) ?_
        refine va_get (D := gD G) (ci := 6) (v := .ref q_p) (C := RX6) (T := TX6) (N := 8) hx hb hts i_X6 hown hB.1 hP 0 rfl rfl 6 (by decide) t_1 (fun _ h9 => h9) rfl dX6_put_51 ?_
        refine lv_iload_n hx hb dX6_put_54 rfl (lv_at hl 2 rfl) ?_
        refine lv_iload_n hx hb dX6_put_55 rfl (lv_at hl 3 rfl) ?_
        obtain ⟨o_5, hk⟩ := hk
        refine wr_V (ci := 1) (q0 := 2) (As := [.int x1, .int x2]) (rest := []) (wr := [oX6 q_x q_t q_b q_d q_e q_r q_s q_p xF, oX0 q_b q_bA q_bB q_bZ q_bG q_bP q_bQ bC bM bL bD, aI G q_pE 260 ((f_X1_keep pS pE pN pK).1)]) (wf := [oX6 q_x q_t q_b q_d q_e q_r q_s q_p xF, oX0 q_b q_bA q_bB q_bZ q_bG q_bP q_bQ bC bM bL bD, oX1 q_p q_pS q_pE ((f_X1_keep pS pE pN pK).2.1) ((f_X1_keep pS pE pN pK).2.2), aI G q_pS 26 (f_X1_moveGood x1 x2 pS), aI G q_pE 260 ((f_X1_keep pS pE pN pK).1)]) (c_X1_moveGood l G q_p q_pS q_pE ((f_X1_keep pS pE pN pK).2.1) ((f_X1_keep pS pE pN pK).2.2) pS x1 x2 o_5) [2, 3] [0, 1, 4] [0, 1, 3, 4, 2] rfl rfl rfl (by decide) rfl rfl rfl gX6_put_X1_moveGood ⟨_, rfl⟩ hd_X1_moveGood rfl dX6_put_56 rfl rfl (Nat.le_of_ble_eq_true rfl) ⟨Nat.le_of_ble_eq_true rfl, Nat.le_of_ble_eq_true rfl⟩ ⟨Nat.le_refl 0, Nat.le_refl 0⟩ hx hb hml hown hts hB hD hS hA hP hl.1 (fun H locs hP hD hS => ?_)
        refine W.eq (g2 := F0 m 59 ls []) rfl ?_
        refine lv_iload_n hx hb dX6_put_59 rfl (lv_at hl 0 rfl) ?_
        have e9 : f_X6_put x1 x2 pS pE pN pK bM = ((f_X1_parcelOf x1 pS), f_X1_moveGood x1 x2 pS, ((f_X1_keep pS pE pN pK).1), ((f_X1_keep pS pE pN pK).2.1), ((f_X1_keep pS pE pN pK).2.2)) := by rw [f_X6_put, if_neg c_1, if_pos c_2, if_neg c_3]
        exact fi 60 _ (f_X1_parcelOf x1 pS) .int _ _ rfl rfl dX6_put_60 (by simp only [e9]) (by rw [e9]; exact hP) (by rw [e9]; exact hD) hS
      · rw [if_pos c_3] at hk
        refine lv_bipush (v := (-2)) hx hb dX6_put_40 (by decide) ?_
        have e9 : f_X6_put x1 x2 pS pE pN pK bM = ((-2), pS, pE, pN, pK) := by rw [f_X6_put, if_neg c_1, if_pos c_2, if_pos c_3]
        exact fi 42 _ (-2) .int _ _ rfl rfl dX6_put_42 (by simp only [e9]) (by rw [e9]; exact hP) (by rw [e9]; exact hD) hS
    · rw [if_neg c_2] at hk
      refine lv_iload_n hx hb dX6_put_16 rfl (lv_at hl 2 rfl) ?_
      refine ro_S (As := [.int x2]) (rest := []) (c_X6_isParcel l G x2) [] rfl gX6_put_X6_isParcel ⟨_, rfl⟩ hd_X6_isParcel dX6_put_17 rfl rfl (Nat.le_of_ble_eq_true rfl) ⟨Nat.le_of_ble_eq_true rfl, Nat.le_of_ble_eq_true rfl⟩ ⟨Nat.le_refl 0, Nat.le_refl 0⟩ hx hb hml hown hts hB hS hP hl.1 ?_
      refine W.eq (g2 := F0 m 20 ls [.int (f_X6_isParcel x2)]) rfl ?_
      refine lv_if_ne (tgt := 26) hx hb dX6_put_20 (by decide) (fun c_6 => ?_) (fun c_6 => ?_)
      · rw [if_neg c_6] at hk
        refine lv_aload_n hx hb dX6_put_26 rfl (lv_at hl 0 rfl) ?_
        refine va_get (D := gD G) (ci := 6) (v := .ref q_p) (C := RX6) (T := TX6) (N := 8) hx hb hts i_X6 hown hB.1 hP 0 rfl rfl 6 (by decide) t_1 (fun _ h9 => h9) rfl dX6_put_27 ?_
        refine lv_iload_n hx hb dX6_put_30 rfl (lv_at hl 1 rfl) ?_
        refine ro_V (ci := 1) (q0 := 2) (As := [.int x1]) (rest := []) (c_X1_parcelOf l G q_p q_pS q_pE pN pK pS x1) [2, 3] rfl rfl rfl rfl gX6_put_X1_parcelOf ⟨_, rfl⟩ hd_X1_parcelOf rfl dX6_put_31 rfl rfl (Nat.le_of_ble_eq_true rfl) ⟨Nat.le_of_ble_eq_true rfl, Nat.le_of_ble_eq_true rfl⟩ ⟨Nat.le_refl 0, Nat.le_refl 0⟩ hx hb hml hown hts hB hS hP hl.1 ?_
        refine W.eq (g2 := F0 m 34 ls [.int (f_X1_parcelOf x1 pS)]) rfl ?_
        refine lv_istore_n (lv' := [(3, .int (f_X1_parcelOf x1 pS)), (0, .ref q_x), (1, .int x1), (2, .int x2)]) hx hb dX6_put_34 rfl hl (by decide) rfl (fun ls hl => ?_)
        refine lv_iload_n hx hb dX6_put_35 rfl (lv_at hl 0 rfl) ?_
        refine lv_iload_n hx hb dX6_put_36 rfl (lv_at hl 3 rfl) ?_
        refine lv_icmp_ne (tgt := 43) hx hb dX6_put_37 (by decide) (fun c_7 => ?_) (fun c_7 => ?_)
        · rw [if_neg c_7] at hk
          refine lv_aload_n hx hb dX6_put_43 rfl (lv_at hl 1 rfl) ?_
          refine va_get (D := gD G) (ci := 6) (v := .ref q_p) (C := RX6) (T := TX6) (N := 8) hx hb hts i_X6 hown hB.1 hP 0 rfl rfl 6 (by decide) t_1 (fun _ h9 => h9) rfl dX6_put_44 ?_
          obtain ⟨o_8, hk⟩ := hk
          refine wr_V (ci := 1) (q0 := 2) (As := []) (rest := []) (wr := [oX6 q_x q_t q_b q_d q_e q_r q_s q_p xF, oX0 q_b q_bA q_bB q_bZ q_bG q_bP q_bQ bC bM bL bD]) (wf := [oX6 q_x q_t q_b q_d q_e q_r q_s q_p xF, oX0 q_b q_bA q_bB q_bZ q_bG q_bP q_bQ bC bM bL bD, oX1 q_p q_pS q_pE ((f_X1_keep pS pE pN pK).2.1) ((f_X1_keep pS pE pN pK).2.2), aI G q_pS 26 pS, aI G q_pE 260 ((f_X1_keep pS pE pN pK).1)]) (c_X1_keep l G q_p q_pS q_pE pN pK pS pE o_8) [2, 3, 4] [0, 1] [0, 1, 2, 3, 4] rfl rfl rfl (by decide) rfl rfl rfl gX6_put_X1_keep ⟨_, rfl⟩ hd_X1_keep rfl dX6_put_47 rfl rfl (Nat.le_of_ble_eq_true rfl) ⟨Nat.le_of_ble_eq_true rfl, Nat.le_of_ble_eq_true rfl⟩ ⟨Nat.le_refl 0, Nat.le_refl 0⟩ hx hb hml hown hts hB hD hS hA hP hl.1 (fun H locs hP hD hS => ?_)
          refine W.eq (g2 := F0 m 50 ls []) rfl ?_
          refine lv_aload_n hx hb dX6_put_50 rfl (lv_at hl 1 rfl) ?_
          refine va_get (D := gD G) (ci := 6) (v := .ref q_p) (C := RX6) (T := TX6) (N := 8) hx hb hts i_X6 hown hB.1 hP 0 rfl rfl 6 (by decide) t_1 (fun _ h9 => h9) rfl dX6_put_51 ?_
          refine lv_iload_n hx hb dX6_put_54 rfl (lv_at hl 2 rfl) ?_
          refine lv_iload_n hx hb dX6_put_55 rfl (lv_at hl 3 rfl) ?_
          obtain ⟨o_9, hk⟩ := hk
          refine wr_V (ci := 1) (q0 := 2) (As := [.int x1, .int x2]) (rest := []) (wr := [oX6 q_x q_t q_b q_d q_e q_r q_s q_p xF, oX0 q_b q_bA q_bB q_bZ q_bG q_bP q_bQ bC bM bL bD, aI G q_pE 260 ((f_X1_keep pS pE pN pK).1)]) (wf := [oX6 q_x q_t q_b q_d q_e q_r q_s q_p xF, oX0 q_b q_bA q_bB q_bZ q_bG q_bP q_bQ bC bM bL bD, oX1 q_p q_pS q_pE ((f_X1_keep pS pE pN pK).2.1) ((f_X1_keep pS pE pN pK).2.2), aI G q_pS 26 (f_X1_moveGood x1 x2 pS), aI G q_pE 260 ((f_X1_keep pS pE pN pK).1)]) (c_X1_moveGood l G q_p q_pS q_pE ((f_X1_keep pS pE pN pK).2.1) ((f_X1_keep pS pE pN pK).2.2) pS x1 x2 o_9) [2, 3] [0, 1, 4] [0, 1, 3, 4, 2] rfl rfl rfl (by decide) rfl rfl rfl gX6_put_X1_moveGood ⟨_, rfl⟩ hd_X1_moveGood rfl dX6_put_56 rfl rfl (Nat.le_of_ble_eq_true rfl) ⟨Nat.le_of_ble_eq_true rfl, Nat.le_of_ble_eq_true rfl⟩ ⟨Nat.le_refl 0, Nat.le_refl 0⟩ hx hb hml hown hts hB hD hS hA hP hl.1 (fun H locs hP hD hS => ?_)
          refine W.eq (g2 := F0 m 59 ls []) rfl ?_
          refine lv_iload_n hx hb dX6_put_59 rfl (lv_at hl 0 rfl) ?_
          have e9 : f_X6_put x1 x2 pS pE pN pK bM = ((f_X1_parcelOf x1 pS), f_X1_moveGood x1 x2 pS, ((f_X1_keep pS pE pN pK).1), ((f_X1_keep pS pE pN pK).2.1), ((f_X1_keep pS pE pN pK).2.2)) := by rw [f_X6_put, if_neg c_1, if_neg c_2, if_neg c_6, if_neg c_7]
          exact fi 60 _ (f_X1_parcelOf x1 pS) .int _ _ rfl rfl dX6_put_60 (by simp only [e9]) (by rw [e9]; exact hP) (by rw [e9]; exact hD) hS
        · rw [if_pos c_7] at hk
          refine lv_bipush (v := (-2)) hx hb dX6_put_40 (by decide) ?_
          have e9 : f_X6_put x1 x2 pS pE pN pK bM = ((-2), pS, pE, pN, pK) := by rw [f_X6_put, if_neg c_1, if_neg c_2, if_neg c_6, if_pos c_7]
          exact fi 42 _ (-2) .int _ _ rfl rfl dX6_put_42 (by simp only [e9]) (by rw [e9]; exact hP) (by rw [e9]; exact hD) hS
      · rw [if_pos c_6] at hk
        refine lv_bipush (v := (-3)) hx hb dX6_put_23 (by decide) ?_
        have e9 : f_X6_put x1 x2 pS pE pN pK bM = ((-3), pS, pE, pN, pK) := by rw [f_X6_put, if_neg c_1, if_neg c_2, if_pos c_6]
        exact fi 25 _ (-3) .int _ _ rfl rfl dX6_put_25 (by simp only [e9]) (by rw [e9]; exact hP) (by rw [e9]; exact hD) hS

def f_X6_by (x1 : Int32) (x2 : Int32) (pS : Nat → Int32) (pE : Nat → Int32) (pN : Int32) (pK : Int32) (bC : Int32) : Int32 × (Nat → Int32) × (Nat → Int32) × Int32 × Int32 := (if (f_X6_isParcel x1) = 0 then ((-1), pS, pE, pN, pK) else (if (f_X0_hasCarrier x2 bC) = 0 then ((-1), pS, pE, pN, pK) else ((f_X1_carrierOf x1 pS), f_X1_setCarrier x1 x2 pS, ((f_X1_keep pS pE pN pK).1), ((f_X1_keep pS pE pN pK).2.1), ((f_X1_keep pS pE pN pK).2.2))))
def k_X6_by (x1 : Int32) (x2 : Int32) (pS : Nat → Int32) (pE : Nat → Int32) (pN : Int32) (bC : Int32) : Prop := (if (f_X6_isParcel x1) = 0 then True else (if (f_X0_hasCarrier x2 bC) = 0 then True else (k_X1_keep pS pE pN ∧ True)))
theorem hd_X6_by : yX6_by.cls ≠ "java/lang/invoke/MethodHandle" ∧ yX6_by.cls ≠ "java/lang/invoke/VarHandle" ∧ (parseMethodDescriptor yX6_by.desc).map (fun d => d.parameters.length) = some 2 := by decide +kernel
set_option maxHeartbeats 4000000 in
set_option maxRecDepth 100000 in
theorem c_X6_by (l : Launch) (G : BGT) (q_x q_t q_b q_d q_e q_r q_s q_p q_bA q_bB q_bZ q_bG q_bP q_bQ q_pS q_pE : Nat) (xF : Int32) (bC : Int32) (bM : Int32) (bL : Int32) (bD : Int32) (pN : Int32) (pK : Int32) (pS : Nat → Int32) (pE : Nat → Int32) (x1 : Int32) (x2 : Int32) (hk : k_X6_by x1 x2 pS pE pN bC) : WR l yX6_by wsX6_by 3 G [oX6 q_x q_t q_b q_d q_e q_r q_s q_p xF, oX0 q_b q_bA q_bB q_bZ q_bG q_bP q_bQ bC bM bL bD, oX1 q_p q_pS q_pE pN pK, aI G q_pS 26 pS, aI G q_pE 260 pE] [oX6 q_x q_t q_b q_d q_e q_r q_s q_p xF, oX0 q_b q_bA q_bB q_bZ q_bG q_bP q_bQ bC bM bL bD, oX1 q_p q_pS q_pE ((f_X6_by x1 x2 pS pE pN pK bC).2.2.2.1) ((f_X6_by x1 x2 pS pE pN pK bC).2.2.2.2), aI G q_pS 26 ((f_X6_by x1 x2 pS pE pN pK bC).2.1), aI G q_pE 260 ((f_X6_by x1 x2 pS pE pN pK bC).2.2.1)] [.ref q_x, .int x1, .int x2] (some (.int ((f_X6_by x1 x2 pS pE pN pK bC).1))) := by
  refine WR.ofW (cc := cX6_by) (maxL := 4) (ret := (some .int)) (C := RX6) (by decide) rfl rfl (Nat.le_of_ble_eq_true rfl) ?_
  intro p e s m args below meth c Q ls A hx hb hml hts hown hP hD hS hA hB hl fi fv
  have hl : lv_has ls 4 [(0, .ref q_x), (1, .int x1), (2, .int x2)] := hl
  have t_0 := hts (.fieldLink RX6 19 "ParcelSplit" "book" "LParcelSplit$Book;") (by decide +kernel)
  have t_1 := hts (.fieldLink RX6 56 "ParcelSplit" "plan" "LParcelSplit$Plan;") (by decide +kernel)
  have i_X6 : ∀ w ∈ wsX60, w ∈ wsX6_by := by decide +kernel
  rw [k_X6_by] at hk
  refine lv_iload_n hx hb dX6_by_0 rfl (lv_at hl 1 rfl) ?_
  refine ro_S (As := [.int x1]) (rest := []) (c_X6_isParcel l G x1) [] rfl gX6_by_X6_isParcel ⟨_, rfl⟩ hd_X6_isParcel dX6_by_1 rfl rfl (Nat.le_of_ble_eq_true rfl) ⟨Nat.le_of_ble_eq_true rfl, Nat.le_of_ble_eq_true rfl⟩ ⟨Nat.le_refl 0, Nat.le_refl 0⟩ hx hb hml hown hts hB hS hP hl.1 ?_
  refine W.eq (g2 := F0 m 4 ls [.int (f_X6_isParcel x1)]) rfl ?_
  refine lv_if_eq (tgt := 18) hx hb dX6_by_4 (by decide) (fun c_1 => ?_) (fun c_1 => ?_)
  · rw [if_pos c_1] at hk
    refine lv_iconst (v := (-1)) hx hb dX6_by_18 (by decide) ?_
    have e9 : f_X6_by x1 x2 pS pE pN pK bC = ((-1), pS, pE, pN, pK) := by rw [f_X6_by, if_pos c_1]
    exact fi 19 _ (-1) .int _ _ rfl rfl dX6_by_19 (by simp only [e9]) (by rw [e9]; exact hP) (by rw [e9]; exact hD) hS
  · rw [if_neg c_1] at hk
    refine lv_aload_n hx hb dX6_by_7 rfl (lv_at hl 0 rfl) ?_
    refine va_get (D := gD G) (ci := 6) (v := .ref q_b) (C := RX6) (T := TX6) (N := 8) hx hb hts i_X6 hown hB.1 hP 0 rfl rfl 1 (by decide) t_0 (fun _ h9 => h9) rfl dX6_by_8 ?_
    refine lv_iload_n hx hb dX6_by_11 rfl (lv_at hl 2 rfl) ?_
    refine ro_V (ci := 0) (q0 := 1) (As := [.int x2]) (rest := []) (c_X0_hasCarrier l G q_b q_bA q_bB q_bZ q_bG q_bP q_bQ bC bM bL bD x2) [1] rfl rfl rfl rfl gX6_by_X0_hasCarrier ⟨_, rfl⟩ hd_X0_hasCarrier rfl dX6_by_12 rfl rfl (Nat.le_of_ble_eq_true rfl) ⟨Nat.le_of_ble_eq_true rfl, Nat.le_of_ble_eq_true rfl⟩ ⟨Nat.le_refl 0, Nat.le_refl 0⟩ hx hb hml hown hts hB hS hP hl.1 ?_
    refine W.eq (g2 := F0 m 15 ls [.int (f_X0_hasCarrier x2 bC)]) rfl ?_
    refine lv_if_ne (tgt := 20) hx hb dX6_by_15 (by decide) (fun c_2 => ?_) (fun c_2 => ?_)
    · rw [if_neg c_2] at hk
      refine lv_aload_n hx hb dX6_by_20 rfl (lv_at hl 0 rfl) ?_
      refine va_get (D := gD G) (ci := 6) (v := .ref q_p) (C := RX6) (T := TX6) (N := 8) hx hb hts i_X6 hown hB.1 hP 0 rfl rfl 6 (by decide) t_1 (fun _ h9 => h9) rfl dX6_by_21 ?_
      refine lv_iload_n hx hb dX6_by_24 rfl (lv_at hl 1 rfl) ?_
      refine ro_V (ci := 1) (q0 := 2) (As := [.int x1]) (rest := []) (c_X1_carrierOf l G q_p q_pS q_pE pN pK pS x1) [2, 3] rfl rfl rfl rfl gX6_by_X1_carrierOf ⟨_, rfl⟩ hd_X1_carrierOf rfl dX6_by_25 rfl rfl (Nat.le_of_ble_eq_true rfl) ⟨Nat.le_of_ble_eq_true rfl, Nat.le_of_ble_eq_true rfl⟩ ⟨Nat.le_refl 0, Nat.le_refl 0⟩ hx hb hml hown hts hB hS hP hl.1 ?_
      refine W.eq (g2 := F0 m 28 ls [.int (f_X1_carrierOf x1 pS)]) rfl ?_
      refine lv_istore_n (lv' := [(3, .int (f_X1_carrierOf x1 pS)), (0, .ref q_x), (1, .int x1), (2, .int x2)]) hx hb dX6_by_28 rfl hl (by decide) rfl (fun ls hl => ?_)
      refine lv_aload_n hx hb dX6_by_29 rfl (lv_at hl 1 rfl) ?_
      refine va_get (D := gD G) (ci := 6) (v := .ref q_p) (C := RX6) (T := TX6) (N := 8) hx hb hts i_X6 hown hB.1 hP 0 rfl rfl 6 (by decide) t_1 (fun _ h9 => h9) rfl dX6_by_30 ?_
      obtain ⟨o_3, hk⟩ := hk
      refine wr_V (ci := 1) (q0 := 2) (As := []) (rest := []) (wr := [oX6 q_x q_t q_b q_d q_e q_r q_s q_p xF, oX0 q_b q_bA q_bB q_bZ q_bG q_bP q_bQ bC bM bL bD]) (wf := [oX6 q_x q_t q_b q_d q_e q_r q_s q_p xF, oX0 q_b q_bA q_bB q_bZ q_bG q_bP q_bQ bC bM bL bD, oX1 q_p q_pS q_pE ((f_X1_keep pS pE pN pK).2.1) ((f_X1_keep pS pE pN pK).2.2), aI G q_pS 26 pS, aI G q_pE 260 ((f_X1_keep pS pE pN pK).1)]) (c_X1_keep l G q_p q_pS q_pE pN pK pS pE o_3) [2, 3, 4] [0, 1] [0, 1, 2, 3, 4] rfl rfl rfl (by decide) rfl rfl rfl gX6_by_X1_keep ⟨_, rfl⟩ hd_X1_keep rfl dX6_by_33 rfl rfl (Nat.le_of_ble_eq_true rfl) ⟨Nat.le_of_ble_eq_true rfl, Nat.le_of_ble_eq_true rfl⟩ ⟨Nat.le_refl 0, Nat.le_refl 0⟩ hx hb hml hown hts hB hD hS hA hP hl.1 (fun H locs hP hD hS => ?_)
      refine W.eq (g2 := F0 m 36 ls []) rfl ?_
      refine lv_aload_n hx hb dX6_by_36 rfl (lv_at hl 1 rfl) ?_
      refine va_get (D := gD G) (ci := 6) (v := .ref q_p) (C := RX6) (T := TX6) (N := 8) hx hb hts i_X6 hown hB.1 hP 0 rfl rfl 6 (by decide) t_1 (fun _ h9 => h9) rfl dX6_by_37 ?_
      refine lv_iload_n hx hb dX6_by_40 rfl (lv_at hl 2 rfl) ?_
      refine lv_iload_n hx hb dX6_by_41 rfl (lv_at hl 3 rfl) ?_
      refine wr_V (ci := 1) (q0 := 2) (As := [.int x1, .int x2]) (rest := []) (wr := [oX6 q_x q_t q_b q_d q_e q_r q_s q_p xF, oX0 q_b q_bA q_bB q_bZ q_bG q_bP q_bQ bC bM bL bD, aI G q_pE 260 ((f_X1_keep pS pE pN pK).1)]) (wf := [oX6 q_x q_t q_b q_d q_e q_r q_s q_p xF, oX0 q_b q_bA q_bB q_bZ q_bG q_bP q_bQ bC bM bL bD, oX1 q_p q_pS q_pE ((f_X1_keep pS pE pN pK).2.1) ((f_X1_keep pS pE pN pK).2.2), aI G q_pS 26 (f_X1_setCarrier x1 x2 pS), aI G q_pE 260 ((f_X1_keep pS pE pN pK).1)]) (c_X1_setCarrier l G q_p q_pS q_pE ((f_X1_keep pS pE pN pK).2.1) ((f_X1_keep pS pE pN pK).2.2) pS x1 x2) [2, 3] [0, 1, 4] [0, 1, 3, 4, 2] rfl rfl rfl (by decide) rfl rfl rfl gX6_by_X1_setCarrier ⟨_, rfl⟩ hd_X1_setCarrier rfl dX6_by_42 rfl rfl (Nat.le_of_ble_eq_true rfl) ⟨Nat.le_of_ble_eq_true rfl, Nat.le_of_ble_eq_true rfl⟩ ⟨Nat.le_refl 0, Nat.le_refl 0⟩ hx hb hml hown hts hB hD hS hA hP hl.1 (fun H locs hP hD hS => ?_)
      refine W.eq (g2 := F0 m 45 ls []) rfl ?_
      refine lv_iload_n hx hb dX6_by_45 rfl (lv_at hl 0 rfl) ?_
      have e9 : f_X6_by x1 x2 pS pE pN pK bC = ((f_X1_carrierOf x1 pS), f_X1_setCarrier x1 x2 pS, ((f_X1_keep pS pE pN pK).1), ((f_X1_keep pS pE pN pK).2.1), ((f_X1_keep pS pE pN pK).2.2)) := by rw [f_X6_by, if_neg c_1, if_neg c_2]
      exact fi 46 _ (f_X1_carrierOf x1 pS) .int _ _ rfl rfl dX6_by_46 (by simp only [e9]) (by rw [e9]; exact hP) (by rw [e9]; exact hD) hS
    · rw [if_pos c_2] at hk
      refine lv_iconst (v := (-1)) hx hb dX6_by_18 (by decide) ?_
      have e9 : f_X6_by x1 x2 pS pE pN pK bC = ((-1), pS, pE, pN, pK) := by rw [f_X6_by, if_neg c_1, if_pos c_2]
      exact fi 19 _ (-1) .int _ _ rfl rfl dX6_by_19 (by simp only [e9]) (by rw [e9]; exact hP) (by rw [e9]; exact hD) hS

def f_X6_take_L65 (bM : Int32) : Nat → Int64 → Int32 → (Nat → Int32) → (Nat → Int64) → (Nat → Int32) → (Nat → Int32) → (Nat → Int64) → (Nat → Int32) → Int64 × Int32 × (Nat → Int32) × (Nat → Int64) × (Nat → Int32) × (Nat → Int32) × (Nat → Int64) × (Nat → Int32)
  | 0, v1, v3, w_sZ, w_sR, w_sO, w_sL, w_sW, w_pS => (v1, v3, w_sZ, w_sR, w_sO, w_sL, w_sW, w_pS)
  | n + 1, v1, v3, w_sZ, w_sR, w_sO, w_sL, w_sW, w_pS => (if (f_X0_goodCount bM) ≤ v3 then (v1, v3, w_sZ, w_sR, w_sO, w_sL, w_sW, w_pS) else f_X6_take_L65 bM n v1 (v3 + 1) w_sZ w_sR w_sO w_sL w_sW (f_X1_setCarrier (f_X4_parcelIn v1 v3) (f_X4_carrierIn v1 v3) (f_X1_moveGood v3 (f_X4_parcelIn v1 v3) w_pS)))
def k_X6_take_L65 (bM : Int32) : Nat → Int64 → Int32 → (Nat → Int32) → (Nat → Int64) → (Nat → Int32) → (Nat → Int32) → (Nat → Int64) → (Nat → Int32) → Prop
  | 0, _, _, _, _, _, _, _, _ => False
  | n + 1, v1, v3, w_sZ, w_sR, w_sO, w_sL, w_sW, w_pS => (if (f_X0_goodCount bM) ≤ v3 then True else (k_X1_moveGood v3 (f_X4_parcelIn v1 v3) w_pS ∧ k_X6_take_L65 bM n v1 (v3 + 1) w_sZ w_sR w_sO w_sL w_sW (f_X1_setCarrier (f_X4_parcelIn v1 v3) (f_X4_carrierIn v1 v3) (f_X1_moveGood v3 (f_X4_parcelIn v1 v3) w_pS))))
def f_X6_take_L49 (pS : Nat → Int32) (pE : Nat → Int32) (pN : Int32) (pK : Int32) (bM : Int32) (v1 : Int64) (w_sZ : Nat → Int32) (w_sR : Nat → Int64) (w_sO : Nat → Int32) (w_sL : Nat → Int32) (w_sW : Nat → Int64) : Int32 × (Nat → Int32) × (Nat → Int64) × (Nat → Int32) × (Nat → Int32) × (Nat → Int64) × (Nat → Int32) × (Nat → Int32) × Int32 × Int32 := ((f_J6_bitCount_0f7a4 (f_X1_filledParcels ((f_X6_take_L65 bM FU v1 0 w_sZ w_sR w_sO w_sL w_sW (f_X1_unpack pS)).2.2.2.2.2.2.2))), ((f_X6_take_L65 bM FU v1 0 w_sZ w_sR w_sO w_sL w_sW (f_X1_unpack pS)).2.2.1), ((f_X6_take_L65 bM FU v1 0 w_sZ w_sR w_sO w_sL w_sW (f_X1_unpack pS)).2.2.2.1), ((f_X6_take_L65 bM FU v1 0 w_sZ w_sR w_sO w_sL w_sW (f_X1_unpack pS)).2.2.2.2.1), ((f_X6_take_L65 bM FU v1 0 w_sZ w_sR w_sO w_sL w_sW (f_X1_unpack pS)).2.2.2.2.2.1), ((f_X6_take_L65 bM FU v1 0 w_sZ w_sR w_sO w_sL w_sW (f_X1_unpack pS)).2.2.2.2.2.2.1), ((f_X6_take_L65 bM FU v1 0 w_sZ w_sR w_sO w_sL w_sW (f_X1_unpack pS)).2.2.2.2.2.2.2), ((f_X1_keep pS pE pN pK).1), ((f_X1_keep pS pE pN pK).2.1), ((f_X1_keep pS pE pN pK).2.2))
def k_X6_take_L49 (pS : Nat → Int32) (pE : Nat → Int32) (pN : Int32) (bM : Int32) (v1 : Int64) (w_sZ : Nat → Int32) (w_sR : Nat → Int64) (w_sO : Nat → Int32) (w_sL : Nat → Int32) (w_sW : Nat → Int64) : Prop := (k_X1_keep pS pE pN ∧ (k_X1_unpack pS ∧ (k_X6_take_L65 bM FU v1 0 w_sZ w_sR w_sO w_sL w_sW (f_X1_unpack pS) ∧ (k_X1_filledParcels ((f_X6_take_L65 bM FU v1 0 w_sZ w_sR w_sO w_sL w_sW (f_X1_unpack pS)).2.2.2.2.2.2.2) ∧ (k_J6_bitCount_0f7a4 (f_X1_filledParcels ((f_X6_take_L65 bM FU v1 0 w_sZ w_sR w_sO w_sL w_sW (f_X1_unpack pS)).2.2.2.2.2.2.2)) ∧ True)))))
def f_X6_take (rK : Nat → Int32) (rL : Nat → Int32) (rG : Nat → Int32) (sZ : Nat → Int32) (sR : Nat → Int64) (sO : Nat → Int32) (sL : Nat → Int32) (sW : Nat → Int64) (sU : Nat → Int64) (pS : Nat → Int32) (pE : Nat → Int32) (bA : Nat → Int32) (bB : Nat → Int32) (bZ : Nat → Int32) (bP : Nat → Int32) (bQ : Nat → Int32) (pN : Int32) (pK : Int32) (bC : Int32) (bM : Int32) : Int32 × (Nat → Int32) × (Nat → Int64) × (Nat → Int32) × (Nat → Int32) × (Nat → Int64) × (Nat → Int32) × (Nat → Int32) × Int32 × Int32 := (if 0 ≤ ((f_X4_leastCharge (f_X1_place pS) (f_X1_day pS) rK rL rG sZ sR sO sL sW sU bA bB bZ bP bQ bC bM).1) then f_X6_take_L49 pS pE pN pK bM (f_X4_leastRow (f_X1_place pS) (f_X1_day pS) ((f_X4_leastCharge (f_X1_place pS) (f_X1_day pS) rK rL rG sZ sR sO sL sW sU bA bB bZ bP bQ bC bM).2.2.1) bZ bQ bC) ((f_X4_leastCharge (f_X1_place pS) (f_X1_day pS) rK rL rG sZ sR sO sL sW sU bA bB bZ bP bQ bC bM).2.1) ((f_X4_leastCharge (f_X1_place pS) (f_X1_day pS) rK rL rG sZ sR sO sL sW sU bA bB bZ bP bQ bC bM).2.2.1) ((f_X4_leastCharge (f_X1_place pS) (f_X1_day pS) rK rL rG sZ sR sO sL sW sU bA bB bZ bP bQ bC bM).2.2.2.1) ((f_X4_leastCharge (f_X1_place pS) (f_X1_day pS) rK rL rG sZ sR sO sL sW sU bA bB bZ bP bQ bC bM).2.2.2.2.1) ((f_X4_leastCharge (f_X1_place pS) (f_X1_day pS) rK rL rG sZ sR sO sL sW sU bA bB bZ bP bQ bC bM).2.2.2.2.2) else ((-2), ((f_X4_leastCharge (f_X1_place pS) (f_X1_day pS) rK rL rG sZ sR sO sL sW sU bA bB bZ bP bQ bC bM).2.1), ((f_X4_leastCharge (f_X1_place pS) (f_X1_day pS) rK rL rG sZ sR sO sL sW sU bA bB bZ bP bQ bC bM).2.2.1), ((f_X4_leastCharge (f_X1_place pS) (f_X1_day pS) rK rL rG sZ sR sO sL sW sU bA bB bZ bP bQ bC bM).2.2.2.1), ((f_X4_leastCharge (f_X1_place pS) (f_X1_day pS) rK rL rG sZ sR sO sL sW sU bA bB bZ bP bQ bC bM).2.2.2.2.1), ((f_X4_leastCharge (f_X1_place pS) (f_X1_day pS) rK rL rG sZ sR sO sL sW sU bA bB bZ bP bQ bC bM).2.2.2.2.2), pS, pE, pN, pK))
def k_X6_take (rK : Nat → Int32) (rL : Nat → Int32) (rG : Nat → Int32) (sZ : Nat → Int32) (sR : Nat → Int64) (sO : Nat → Int32) (sL : Nat → Int32) (sW : Nat → Int64) (sU : Nat → Int64) (pS : Nat → Int32) (pE : Nat → Int32) (bA : Nat → Int32) (bB : Nat → Int32) (bZ : Nat → Int32) (bP : Nat → Int32) (bQ : Nat → Int32) (pN : Int32) (bC : Int32) (bM : Int32) : Prop := (k_X4_leastCharge (f_X1_place pS) (f_X1_day pS) rK rL rG sZ sO sL sW sU bA bB bZ bP bQ bC bM ∧ (if 0 ≤ ((f_X4_leastCharge (f_X1_place pS) (f_X1_day pS) rK rL rG sZ sR sO sL sW sU bA bB bZ bP bQ bC bM).1) then (k_X4_leastRow (f_X1_place pS) (f_X1_day pS) bZ bQ bC ∧ k_X6_take_L49 pS pE pN bM (f_X4_leastRow (f_X1_place pS) (f_X1_day pS) ((f_X4_leastCharge (f_X1_place pS) (f_X1_day pS) rK rL rG sZ sR sO sL sW sU bA bB bZ bP bQ bC bM).2.2.1) bZ bQ bC) ((f_X4_leastCharge (f_X1_place pS) (f_X1_day pS) rK rL rG sZ sR sO sL sW sU bA bB bZ bP bQ bC bM).2.1) ((f_X4_leastCharge (f_X1_place pS) (f_X1_day pS) rK rL rG sZ sR sO sL sW sU bA bB bZ bP bQ bC bM).2.2.1) ((f_X4_leastCharge (f_X1_place pS) (f_X1_day pS) rK rL rG sZ sR sO sL sW sU bA bB bZ bP bQ bC bM).2.2.2.1) ((f_X4_leastCharge (f_X1_place pS) (f_X1_day pS) rK rL rG sZ sR sO sL sW sU bA bB bZ bP bQ bC bM).2.2.2.2.1) ((f_X4_leastCharge (f_X1_place pS) (f_X1_day pS) rK rL rG sZ sR sO sL sW sU bA bB bZ bP bQ bC bM).2.2.2.2.2)) else True))
theorem hd_X6_take : yX6_take.cls ≠ "java/lang/invoke/MethodHandle" ∧ yX6_take.cls ≠ "java/lang/invoke/VarHandle" ∧ (parseMethodDescriptor yX6_take.desc).map (fun d => d.parameters.length) = some 0 := by decide +kernel
set_option maxHeartbeats 4000000 in
set_option maxRecDepth 100000 in
theorem c_X6_take (l : Launch) (G : BGT) (q_x q_t q_b q_d q_e q_r q_s q_p q_bA q_bB q_bZ q_bG q_bP q_bQ q_rK q_rL q_rG q_sZ q_sR q_sO q_sL q_sW q_sU q_pS q_pE : Nat) (xF : Int32) (bC : Int32) (bM : Int32) (bL : Int32) (bD : Int32) (bA : Nat → Int32) (bB : Nat → Int32) (bZ : Nat → Int32) (bP : Nat → Int32) (bQ : Nat → Int32) (rK : Nat → Int32) (rL : Nat → Int32) (rG : Nat → Int32) (sZ : Nat → Int32) (sR : Nat → Int64) (sO : Nat → Int32) (sL : Nat → Int32) (sW : Nat → Int64) (sU : Nat → Int64) (pN : Int32) (pK : Int32) (pS : Nat → Int32) (pE : Nat → Int32) (hk : k_X6_take rK rL rG sZ sR sO sL sW sU pS pE bA bB bZ bP bQ pN bC bM) : WR l yX6_take wsX6_take 7 G [oX6 q_x q_t q_b q_d q_e q_r q_s q_p xF, oX0 q_b q_bA q_bB q_bZ q_bG q_bP q_bQ bC bM bL bD, aI G q_bA 18 bA, aI G q_bB 60 bB, aI G q_bZ 45 bZ, aI G q_bP 3 bP, aI G q_bQ 3 bQ, oX2 q_r q_b q_rK q_rL q_rG, aI G q_rK 256 rK, aI G q_rL 256 rL, aI G q_rG 3 rG, oX4 q_s q_b q_r q_sZ q_sR q_sO q_sL q_sW q_sU, aI G q_sZ 64 sZ, aJ G q_sR 64 sR, aI G q_sO 256 sO, aI G q_sL 256 sL, aJ G q_sW 256 sW, aJ G q_sU 256 sU, oX1 q_p q_pS q_pE pN pK, aI G q_pS 26 pS, aI G q_pE 260 pE] [oX6 q_x q_t q_b q_d q_e q_r q_s q_p xF, oX0 q_b q_bA q_bB q_bZ q_bG q_bP q_bQ bC bM bL bD, aI G q_bA 18 bA, aI G q_bB 60 bB, aI G q_bZ 45 bZ, aI G q_bP 3 bP, aI G q_bQ 3 bQ, oX2 q_r q_b q_rK q_rL q_rG, aI G q_rK 256 rK, aI G q_rL 256 rL, aI G q_rG 3 rG, oX4 q_s q_b q_r q_sZ q_sR q_sO q_sL q_sW q_sU, aI G q_sZ 64 ((f_X6_take rK rL rG sZ sR sO sL sW sU pS pE bA bB bZ bP bQ pN pK bC bM).2.1), aJ G q_sR 64 ((f_X6_take rK rL rG sZ sR sO sL sW sU pS pE bA bB bZ bP bQ pN pK bC bM).2.2.1), aI G q_sO 256 ((f_X6_take rK rL rG sZ sR sO sL sW sU pS pE bA bB bZ bP bQ pN pK bC bM).2.2.2.1), aI G q_sL 256 ((f_X6_take rK rL rG sZ sR sO sL sW sU pS pE bA bB bZ bP bQ pN pK bC bM).2.2.2.2.1), aJ G q_sW 256 ((f_X6_take rK rL rG sZ sR sO sL sW sU pS pE bA bB bZ bP bQ pN pK bC bM).2.2.2.2.2.1), aJ G q_sU 256 sU, oX1 q_p q_pS q_pE ((f_X6_take rK rL rG sZ sR sO sL sW sU pS pE bA bB bZ bP bQ pN pK bC bM).2.2.2.2.2.2.2.2.1) ((f_X6_take rK rL rG sZ sR sO sL sW sU pS pE bA bB bZ bP bQ pN pK bC bM).2.2.2.2.2.2.2.2.2), aI G q_pS 26 ((f_X6_take rK rL rG sZ sR sO sL sW sU pS pE bA bB bZ bP bQ pN pK bC bM).2.2.2.2.2.2.1), aI G q_pE 260 ((f_X6_take rK rL rG sZ sR sO sL sW sU pS pE bA bB bZ bP bQ pN pK bC bM).2.2.2.2.2.2.2.1)] [.ref q_x] (some (.int ((f_X6_take rK rL rG sZ sR sO sL sW sU pS pE bA bB bZ bP bQ pN pK bC bM).1))) := by
  refine WR.ofW (cc := cX6_take) (maxL := 5) (ret := (some .int)) (C := RX6) (by decide) rfl rfl (Nat.le_of_ble_eq_true rfl) ?_
  intro p e s m args below meth c Q ls A hx hb hml hts hown hP hD hS hA hB hl fi fv
  have hl : lv_has ls 5 [(0, .ref q_x)] := hl
  have t_0 := hts (.fieldLink RX6 49 "ParcelSplit" "splitter" "LParcelSplit$Splitter;") (by decide +kernel)
  have t_1 := hts (.fieldLink RX6 56 "ParcelSplit" "plan" "LParcelSplit$Plan;") (by decide +kernel)
  have t_2 := hts (.fieldLink RX6 19 "ParcelSplit" "book" "LParcelSplit$Book;") (by decide +kernel)
  have i_X6 : ∀ w ∈ wsX60, w ∈ wsX6_take := by decide +kernel
  have T49 : ∀ (v1 : Int64) (w_sZ : Nat → Int32) (w_sR : Nat → Int64) (w_sO : Nat → Int32) (w_sL : Nat → Int32) (w_sW : Nat → Int64), k_X6_take_L49 pS pE pN bM v1 w_sZ w_sR w_sO w_sL w_sW → f_X6_take rK rL rG sZ sR sO sL sW sU pS pE bA bB bZ bP bQ pN pK bC bM = f_X6_take_L49 pS pE pN pK bM v1 w_sZ w_sR w_sO w_sL w_sW → ∀ (H : Heap) (locs : List Loc), va_P (gD G) vwCl [oX6 q_x q_t q_b q_d q_e q_r q_s q_p xF, oX0 q_b q_bA q_bB q_bZ q_bG q_bP q_bQ bC bM bL bD, aI G q_bA 18 bA, aI G q_bB 60 bB, aI G q_bZ 45 bZ, aI G q_bP 3 bP, aI G q_bQ 3 bQ, oX2 q_r q_b q_rK q_rL q_rG, aI G q_rK 256 rK, aI G q_rL 256 rL, aI G q_rG 3 rG, oX4 q_s q_b q_r q_sZ q_sR q_sO q_sL q_sW q_sU, aI G q_sZ 64 w_sZ, aJ G q_sR 64 w_sR, aI G q_sO 256 w_sO, aI G q_sL 256 w_sL, aJ G q_sW 256 w_sW, aJ G q_sU 256 sU, oX1 q_p q_pS q_pE pN pK, aI G q_pS 26 pS, aI G q_pE 260 pE] H → va_D A [oX6 q_x q_t q_b q_d q_e q_r q_s q_p xF, oX0 q_b q_bA q_bB q_bZ q_bG q_bP q_bQ bC bM bL bD, aI G q_bA 18 bA, aI G q_bB 60 bB, aI G q_bZ 45 bZ, aI G q_bP 3 bP, aI G q_bQ 3 bQ, oX2 q_r q_b q_rK q_rL q_rG, aI G q_rK 256 rK, aI G q_rL 256 rL, aI G q_rG 3 rG, oX4 q_s q_b q_r q_sZ q_sR q_sO q_sL q_sW q_sU, aI G q_sZ 64 w_sZ, aJ G q_sR 64 w_sR, aI G q_sO 256 w_sO, aI G q_sL 256 w_sL, aJ G q_sW 256 w_sW, aJ G q_sU 256 sU, oX1 q_p q_pS q_pE pN pK, aI G q_pS 26 pS, aI G q_pE 260 pE] → va_S A s.heap H locs → ∀ (ls : Array Slot), lv_has ls 5 [(0, .ref q_x), (1, .long v1)] → W p l e (rm 7) s m args below meth c H locs 0 0 Q (F0 m 49 ls []) := by
    intro v1 w_sZ w_sR w_sO w_sL w_sW hk hv H locs hP hD hS ls hl
    rw [k_X6_take_L49] at hk
    refine lv_aload_n hx hb dX6_take_49 rfl (lv_at hl 0 rfl) ?_
    refine va_get (D := gD G) (ci := 6) (v := .ref q_p) (C := RX6) (T := TX6) (N := 8) hx hb hts i_X6 hown hB.1 hP 0 rfl rfl 6 (by decide) t_1 (fun _ h9 => h9) rfl dX6_take_50 ?_
    obtain ⟨o_4, hk⟩ := hk
    refine wr_V (ci := 1) (q0 := 18) (As := []) (rest := []) (wr := [oX6 q_x q_t q_b q_d q_e q_r q_s q_p xF, oX0 q_b q_bA q_bB q_bZ q_bG q_bP q_bQ bC bM bL bD, aI G q_bA 18 bA, aI G q_bB 60 bB, aI G q_bZ 45 bZ, aI G q_bP 3 bP, aI G q_bQ 3 bQ, oX2 q_r q_b q_rK q_rL q_rG, aI G q_rK 256 rK, aI G q_rL 256 rL, aI G q_rG 3 rG, oX4 q_s q_b q_r q_sZ q_sR q_sO q_sL q_sW q_sU, aI G q_sZ 64 w_sZ, aJ G q_sR 64 w_sR, aI G q_sO 256 w_sO, aI G q_sL 256 w_sL, aJ G q_sW 256 w_sW, aJ G q_sU 256 sU]) (wf := [oX6 q_x q_t q_b q_d q_e q_r q_s q_p xF, oX0 q_b q_bA q_bB q_bZ q_bG q_bP q_bQ bC bM bL bD, aI G q_bA 18 bA, aI G q_bB 60 bB, aI G q_bZ 45 bZ, aI G q_bP 3 bP, aI G q_bQ 3 bQ, oX2 q_r q_b q_rK q_rL q_rG, aI G q_rK 256 rK, aI G q_rL 256 rL, aI G q_rG 3 rG, oX4 q_s q_b q_r q_sZ q_sR q_sO q_sL q_sW q_sU, aI G q_sZ 64 w_sZ, aJ G q_sR 64 w_sR, aI G q_sO 256 w_sO, aI G q_sL 256 w_sL, aJ G q_sW 256 w_sW, aJ G q_sU 256 sU, oX1 q_p q_pS q_pE ((f_X1_keep pS pE pN pK).2.1) ((f_X1_keep pS pE pN pK).2.2), aI G q_pS 26 pS, aI G q_pE 260 ((f_X1_keep pS pE pN pK).1)]) (c_X1_keep l G q_p q_pS q_pE pN pK pS pE o_4) [18, 19, 20] [0, 1, 2, 3, 4, 5, 6, 7, 8, 9, 10, 11, 12, 13, 14, 15, 16, 17] [0, 1, 2, 3, 4, 5, 6, 7, 8, 9, 10, 11, 12, 13, 14, 15, 16, 17, 18, 19, 20] rfl rfl rfl (by decide) rfl rfl rfl gX6_take_X1_keep ⟨_, rfl⟩ hd_X1_keep rfl dX6_take_53 rfl rfl (Nat.le_of_ble_eq_true rfl) ⟨Nat.le_of_ble_eq_true rfl, Nat.le_of_ble_eq_true rfl⟩ ⟨Nat.le_refl 0, Nat.le_refl 0⟩ hx hb hml hown hts hB hD hS hA hP hl.1 (fun H locs hP hD hS => ?_)
    refine W.eq (g2 := F0 m 56 ls []) rfl ?_
    refine lv_aload_n hx hb dX6_take_56 rfl (lv_at hl 0 rfl) ?_
    refine va_get (D := gD G) (ci := 6) (v := .ref q_p) (C := RX6) (T := TX6) (N := 8) hx hb hts i_X6 hown hB.1 hP 0 rfl rfl 6 (by decide) t_1 (fun _ h9 => h9) rfl dX6_take_57 ?_
    obtain ⟨o_5, hk⟩ := hk
    refine wr_V (ci := 1) (q0 := 18) (As := []) (rest := []) (wr := [oX6 q_x q_t q_b q_d q_e q_r q_s q_p xF, oX0 q_b q_bA q_bB q_bZ q_bG q_bP q_bQ bC bM bL bD, aI G q_bA 18 bA, aI G q_bB 60 bB, aI G q_bZ 45 bZ, aI G q_bP 3 bP, aI G q_bQ 3 bQ, oX2 q_r q_b q_rK q_rL q_rG, aI G q_rK 256 rK, aI G q_rL 256 rL, aI G q_rG 3 rG, oX4 q_s q_b q_r q_sZ q_sR q_sO q_sL q_sW q_sU, aI G q_sZ 64 w_sZ, aJ G q_sR 64 w_sR, aI G q_sO 256 w_sO, aI G q_sL 256 w_sL, aJ G q_sW 256 w_sW, aJ G q_sU 256 sU, aI G q_pE 260 ((f_X1_keep pS pE pN pK).1)]) (wf := [oX6 q_x q_t q_b q_d q_e q_r q_s q_p xF, oX0 q_b q_bA q_bB q_bZ q_bG q_bP q_bQ bC bM bL bD, aI G q_bA 18 bA, aI G q_bB 60 bB, aI G q_bZ 45 bZ, aI G q_bP 3 bP, aI G q_bQ 3 bQ, oX2 q_r q_b q_rK q_rL q_rG, aI G q_rK 256 rK, aI G q_rL 256 rL, aI G q_rG 3 rG, oX4 q_s q_b q_r q_sZ q_sR q_sO q_sL q_sW q_sU, aI G q_sZ 64 w_sZ, aJ G q_sR 64 w_sR, aI G q_sO 256 w_sO, aI G q_sL 256 w_sL, aJ G q_sW 256 w_sW, aJ G q_sU 256 sU, oX1 q_p q_pS q_pE ((f_X1_keep pS pE pN pK).2.1) ((f_X1_keep pS pE pN pK).2.2), aI G q_pS 26 (f_X1_unpack pS), aI G q_pE 260 ((f_X1_keep pS pE pN pK).1)]) (c_X1_unpack l G q_p q_pS q_pE ((f_X1_keep pS pE pN pK).2.1) ((f_X1_keep pS pE pN pK).2.2) pS o_5) [18, 19] [0, 1, 2, 3, 4, 5, 6, 7, 8, 9, 10, 11, 12, 13, 14, 15, 16, 17, 20] [0, 1, 2, 3, 4, 5, 6, 7, 8, 9, 10, 11, 12, 13, 14, 15, 16, 17, 19, 20, 18] rfl rfl rfl (by decide) rfl rfl rfl gX6_take_X1_unpack ⟨_, rfl⟩ hd_X1_unpack rfl dX6_take_60 rfl rfl (Nat.le_of_ble_eq_true rfl) ⟨Nat.le_of_ble_eq_true rfl, Nat.le_of_ble_eq_true rfl⟩ ⟨Nat.le_refl 0, Nat.le_refl 0⟩ hx hb hml hown hts hB hD hS hA hP hl.1 (fun H locs hP hD hS => ?_)
    refine W.eq (g2 := F0 m 63 ls []) rfl ?_
    refine lv_iconst (v := 0) hx hb dX6_take_63 (by decide) ?_
    refine lv_istore_n (lv' := [(3, .int 0), (0, .ref q_x), (1, .long v1)]) hx hb dX6_take_64 rfl hl (by decide) rfl (fun ls hl => ?_)
    have L65 : ∀ (n : Nat) (v1 : Int64) (v3 : Int32) (w_sZ : Nat → Int32) (w_sR : Nat → Int64) (w_sO : Nat → Int32) (w_sL : Nat → Int32) (w_sW : Nat → Int64) (w_pS : Nat → Int32), k_X6_take_L65 bM n v1 v3 w_sZ w_sR w_sO w_sL w_sW w_pS → ∀ (H : Heap) (locs : List Loc), va_P (gD G) vwCl [oX6 q_x q_t q_b q_d q_e q_r q_s q_p xF, oX0 q_b q_bA q_bB q_bZ q_bG q_bP q_bQ bC bM bL bD, aI G q_bA 18 bA, aI G q_bB 60 bB, aI G q_bZ 45 bZ, aI G q_bP 3 bP, aI G q_bQ 3 bQ, oX2 q_r q_b q_rK q_rL q_rG, aI G q_rK 256 rK, aI G q_rL 256 rL, aI G q_rG 3 rG, oX4 q_s q_b q_r q_sZ q_sR q_sO q_sL q_sW q_sU, aI G q_sZ 64 w_sZ, aJ G q_sR 64 w_sR, aI G q_sO 256 w_sO, aI G q_sL 256 w_sL, aJ G q_sW 256 w_sW, aJ G q_sU 256 sU, oX1 q_p q_pS q_pE ((f_X1_keep pS pE pN pK).2.1) ((f_X1_keep pS pE pN pK).2.2), aI G q_pS 26 w_pS, aI G q_pE 260 ((f_X1_keep pS pE pN pK).1)] H → va_D A [oX6 q_x q_t q_b q_d q_e q_r q_s q_p xF, oX0 q_b q_bA q_bB q_bZ q_bG q_bP q_bQ bC bM bL bD, aI G q_bA 18 bA, aI G q_bB 60 bB, aI G q_bZ 45 bZ, aI G q_bP 3 bP, aI G q_bQ 3 bQ, oX2 q_r q_b q_rK q_rL q_rG, aI G q_rK 256 rK, aI G q_rL 256 rL, aI G q_rG 3 rG, oX4 q_s q_b q_r q_sZ q_sR q_sO q_sL q_sW q_sU, aI G q_sZ 64 w_sZ, aJ G q_sR 64 w_sR, aI G q_sO 256 w_sO, aI G q_sL 256 w_sL, aJ G q_sW 256 w_sW, aJ G q_sU 256 sU, oX1 q_p q_pS q_pE ((f_X1_keep pS pE pN pK).2.1) ((f_X1_keep pS pE pN pK).2.2), aI G q_pS 26 w_pS, aI G q_pE 260 ((f_X1_keep pS pE pN pK).1)] → va_S A s.heap H locs → ∀ (ls : Array Slot), lv_has ls 5 [(0, .ref q_x), (1, .long v1), (3, .int v3)] → (∀ (H : Heap) (locs : List Loc), va_P (gD G) vwCl [oX6 q_x q_t q_b q_d q_e q_r q_s q_p xF, oX0 q_b q_bA q_bB q_bZ q_bG q_bP q_bQ bC bM bL bD, aI G q_bA 18 bA, aI G q_bB 60 bB, aI G q_bZ 45 bZ, aI G q_bP 3 bP, aI G q_bQ 3 bQ, oX2 q_r q_b q_rK q_rL q_rG, aI G q_rK 256 rK, aI G q_rL 256 rL, aI G q_rG 3 rG, oX4 q_s q_b q_r q_sZ q_sR q_sO q_sL q_sW q_sU, aI G q_sZ 64 ((f_X6_take_L65 bM n v1 v3 w_sZ w_sR w_sO w_sL w_sW w_pS).2.2.1), aJ G q_sR 64 ((f_X6_take_L65 bM n v1 v3 w_sZ w_sR w_sO w_sL w_sW w_pS).2.2.2.1), aI G q_sO 256 ((f_X6_take_L65 bM n v1 v3 w_sZ w_sR w_sO w_sL w_sW w_pS).2.2.2.2.1), aI G q_sL 256 ((f_X6_take_L65 bM n v1 v3 w_sZ w_sR w_sO w_sL w_sW w_pS).2.2.2.2.2.1), aJ G q_sW 256 ((f_X6_take_L65 bM n v1 v3 w_sZ w_sR w_sO w_sL w_sW w_pS).2.2.2.2.2.2.1), aJ G q_sU 256 sU, oX1 q_p q_pS q_pE ((f_X1_keep pS pE pN pK).2.1) ((f_X1_keep pS pE pN pK).2.2), aI G q_pS 26 ((f_X6_take_L65 bM n v1 v3 w_sZ w_sR w_sO w_sL w_sW w_pS).2.2.2.2.2.2.2), aI G q_pE 260 ((f_X1_keep pS pE pN pK).1)] H → va_D A [oX6 q_x q_t q_b q_d q_e q_r q_s q_p xF, oX0 q_b q_bA q_bB q_bZ q_bG q_bP q_bQ bC bM bL bD, aI G q_bA 18 bA, aI G q_bB 60 bB, aI G q_bZ 45 bZ, aI G q_bP 3 bP, aI G q_bQ 3 bQ, oX2 q_r q_b q_rK q_rL q_rG, aI G q_rK 256 rK, aI G q_rL 256 rL, aI G q_rG 3 rG, oX4 q_s q_b q_r q_sZ q_sR q_sO q_sL q_sW q_sU, aI G q_sZ 64 ((f_X6_take_L65 bM n v1 v3 w_sZ w_sR w_sO w_sL w_sW w_pS).2.2.1), aJ G q_sR 64 ((f_X6_take_L65 bM n v1 v3 w_sZ w_sR w_sO w_sL w_sW w_pS).2.2.2.1), aI G q_sO 256 ((f_X6_take_L65 bM n v1 v3 w_sZ w_sR w_sO w_sL w_sW w_pS).2.2.2.2.1), aI G q_sL 256 ((f_X6_take_L65 bM n v1 v3 w_sZ w_sR w_sO w_sL w_sW w_pS).2.2.2.2.2.1), aJ G q_sW 256 ((f_X6_take_L65 bM n v1 v3 w_sZ w_sR w_sO w_sL w_sW w_pS).2.2.2.2.2.2.1), aJ G q_sU 256 sU, oX1 q_p q_pS q_pE ((f_X1_keep pS pE pN pK).2.1) ((f_X1_keep pS pE pN pK).2.2), aI G q_pS 26 ((f_X6_take_L65 bM n v1 v3 w_sZ w_sR w_sO w_sL w_sW w_pS).2.2.2.2.2.2.2), aI G q_pE 260 ((f_X1_keep pS pE pN pK).1)] → va_S A s.heap H locs → ∀ (ls : Array Slot), lv_has ls 5 [(0, .ref q_x), (1, .long ((f_X6_take_L65 bM n v1 v3 w_sZ w_sR w_sO w_sL w_sW w_pS).1)), (3, .int ((f_X6_take_L65 bM n v1 v3 w_sZ w_sR w_sO w_sL w_sW w_pS).2.1))] → W p l e (rm 7) s m args below meth c H locs 0 0 Q (F0 m 113 ls [])) → W p l e (rm 7) s m args below meth c H locs 0 0 Q (F0 m 65 ls []) := by
      intro n
      induction n with
      | zero => intro v1 v3 w_sZ w_sR w_sO w_sL w_sW w_pS hk; exact (hk : False).elim
      | succ n ih =>
        intro v1 v3 w_sZ w_sR w_sO w_sL w_sW w_pS hk H locs hP hD hS ls hl kk
        rw [k_X6_take_L65] at hk
        refine lv_iload_n hx hb dX6_take_65 rfl (lv_at hl 2 rfl) ?_
        refine lv_aload_n hx hb dX6_take_66 rfl (lv_at hl 0 rfl) ?_
        refine va_get (D := gD G) (ci := 6) (v := .ref q_b) (C := RX6) (T := TX6) (N := 8) hx hb hts i_X6 hown hB.1 hP 0 rfl rfl 1 (by decide) t_2 (fun _ h9 => h9) rfl dX6_take_67 ?_
        refine ro_V (ci := 0) (q0 := 1) (As := []) (rest := [.int v3]) (c_X0_goodCount l G q_b q_bA q_bB q_bZ q_bG q_bP q_bQ bC bM bL bD) [1] rfl rfl rfl rfl gX6_take_X0_goodCount ⟨_, rfl⟩ hd_X0_goodCount rfl dX6_take_70 rfl rfl (Nat.le_of_ble_eq_true rfl) ⟨Nat.le_of_ble_eq_true rfl, Nat.le_of_ble_eq_true rfl⟩ ⟨Nat.le_refl 0, Nat.le_refl 0⟩ hx hb hml hown hts hB hS hP hl.1 ?_
        refine W.eq (g2 := F0 m 73 ls [.int (f_X0_goodCount bM), .int v3]) rfl ?_
        refine lv_icmp_ge (tgt := 113) hx hb dX6_take_73 (by decide) (fun c_6 => ?_) (fun c_6 => ?_)
        · rw [if_pos c_6] at hk
          have e9 : f_X6_take_L65 bM (n + 1) v1 v3 w_sZ w_sR w_sO w_sL w_sW w_pS = (v1, v3, w_sZ, w_sR, w_sO, w_sL, w_sW, w_pS) := by rw [f_X6_take_L65, if_pos c_6]
          rw [e9] at kk
          exact kk _ _ hP hD hS ls (lv_sub hl [0, 1, 2] rfl)
        · rw [if_neg c_6] at hk
          refine lv_lload_n hx hb dX6_take_76 rfl (lv_at hl 1 rfl) ?_
          refine lv_iload_n hx hb dX6_take_77 rfl (lv_at hl 2 rfl) ?_
          refine ro_S (As := [.long v1, .int v3]) (rest := []) (c_X4_parcelIn l G v1 v3) [] rfl gX6_take_X4_parcelIn ⟨_, rfl⟩ hd_X4_parcelIn dX6_take_78 rfl rfl (Nat.le_of_ble_eq_true rfl) ⟨Nat.le_of_ble_eq_true rfl, Nat.le_of_ble_eq_true rfl⟩ ⟨Nat.le_refl 0, Nat.le_refl 0⟩ hx hb hml hown hts hB hS hP hl.1 ?_
          refine W.eq (g2 := F0 m 81 ls [.int (f_X4_parcelIn v1 v3)]) rfl ?_
          refine lv_istore (lv' := [(4, .int (f_X4_parcelIn v1 v3)), (0, .ref q_x), (1, .long v1), (3, .int v3)]) hx hb dX6_take_81 hl (by decide) rfl (fun ls hl => ?_)
          refine lv_aload_n hx hb dX6_take_83 rfl (lv_at hl 1 rfl) ?_
          refine va_get (D := gD G) (ci := 6) (v := .ref q_p) (C := RX6) (T := TX6) (N := 8) hx hb hts i_X6 hown hB.1 hP 0 rfl rfl 6 (by decide) t_1 (fun _ h9 => h9) rfl dX6_take_84 ?_
          refine lv_iload_n hx hb dX6_take_87 rfl (lv_at hl 3 rfl) ?_
          refine lv_iload hx hb dX6_take_88 (lv_at hl 0 rfl) ?_
          obtain ⟨o_7, hk⟩ := hk
          refine wr_V (ci := 1) (q0 := 18) (As := [.int v3, .int (f_X4_parcelIn v1 v3)]) (rest := []) (wr := [oX6 q_x q_t q_b q_d q_e q_r q_s q_p xF, oX0 q_b q_bA q_bB q_bZ q_bG q_bP q_bQ bC bM bL bD, aI G q_bA 18 bA, aI G q_bB 60 bB, aI G q_bZ 45 bZ, aI G q_bP 3 bP, aI G q_bQ 3 bQ, oX2 q_r q_b q_rK q_rL q_rG, aI G q_rK 256 rK, aI G q_rL 256 rL, aI G q_rG 3 rG, oX4 q_s q_b q_r q_sZ q_sR q_sO q_sL q_sW q_sU, aI G q_sZ 64 w_sZ, aJ G q_sR 64 w_sR, aI G q_sO 256 w_sO, aI G q_sL 256 w_sL, aJ G q_sW 256 w_sW, aJ G q_sU 256 sU, aI G q_pE 260 ((f_X1_keep pS pE pN pK).1)]) (wf := [oX6 q_x q_t q_b q_d q_e q_r q_s q_p xF, oX0 q_b q_bA q_bB q_bZ q_bG q_bP q_bQ bC bM bL bD, aI G q_bA 18 bA, aI G q_bB 60 bB, aI G q_bZ 45 bZ, aI G q_bP 3 bP, aI G q_bQ 3 bQ, oX2 q_r q_b q_rK q_rL q_rG, aI G q_rK 256 rK, aI G q_rL 256 rL, aI G q_rG 3 rG, oX4 q_s q_b q_r q_sZ q_sR q_sO q_sL q_sW q_sU, aI G q_sZ 64 w_sZ, aJ G q_sR 64 w_sR, aI G q_sO 256 w_sO, aI G q_sL 256 w_sL, aJ G q_sW 256 w_sW, aJ G q_sU 256 sU, oX1 q_p q_pS q_pE ((f_X1_keep pS pE pN pK).2.1) ((f_X1_keep pS pE pN pK).2.2), aI G q_pS 26 (f_X1_moveGood v3 (f_X4_parcelIn v1 v3) w_pS), aI G q_pE 260 ((f_X1_keep pS pE pN pK).1)]) (c_X1_moveGood l G q_p q_pS q_pE ((f_X1_keep pS pE pN pK).2.1) ((f_X1_keep pS pE pN pK).2.2) w_pS v3 (f_X4_parcelIn v1 v3) o_7) [18, 19] [0, 1, 2, 3, 4, 5, 6, 7, 8, 9, 10, 11, 12, 13, 14, 15, 16, 17, 20] [0, 1, 2, 3, 4, 5, 6, 7, 8, 9, 10, 11, 12, 13, 14, 15, 16, 17, 19, 20, 18] rfl rfl rfl (by decide) rfl rfl rfl gX6_take_X1_moveGood ⟨_, rfl⟩ hd_X1_moveGood rfl dX6_take_90 rfl rfl (Nat.le_of_ble_eq_true rfl) ⟨Nat.le_of_ble_eq_true rfl, Nat.le_of_ble_eq_true rfl⟩ ⟨Nat.le_refl 0, Nat.le_refl 0⟩ hx hb hml hown hts hB hD hS hA hP hl.1 (fun H locs hP hD hS => ?_)
          refine W.eq (g2 := F0 m 93 ls []) rfl ?_
          refine lv_aload_n hx hb dX6_take_93 rfl (lv_at hl 1 rfl) ?_
          refine va_get (D := gD G) (ci := 6) (v := .ref q_p) (C := RX6) (T := TX6) (N := 8) hx hb hts i_X6 hown hB.1 hP 0 rfl rfl 6 (by decide) t_1 (fun _ h9 => h9) rfl dX6_take_94 ?_
          refine lv_iload hx hb dX6_take_97 (lv_at hl 0 rfl) ?_
          refine lv_lload_n hx hb dX6_take_99 rfl (lv_at hl 2 rfl) ?_
          refine lv_iload_n hx hb dX6_take_100 rfl (lv_at hl 3 rfl) ?_
          refine ro_S (As := [.long v1, .int v3]) (rest := [.int (f_X4_parcelIn v1 v3), .ref q_p]) (c_X4_carrierIn l G v1 v3) [] rfl gX6_take_X4_carrierIn ⟨_, rfl⟩ hd_X4_carrierIn dX6_take_101 rfl rfl (Nat.le_of_ble_eq_true rfl) ⟨Nat.le_of_ble_eq_true rfl, Nat.le_of_ble_eq_true rfl⟩ ⟨Nat.le_refl 0, Nat.le_refl 0⟩ hx hb hml hown hts hB hS hP hl.1 ?_
          refine W.eq (g2 := F0 m 104 ls [.int (f_X4_carrierIn v1 v3), .int (f_X4_parcelIn v1 v3), .ref q_p]) rfl ?_
          refine wr_V (ci := 1) (q0 := 18) (As := [.int (f_X4_parcelIn v1 v3), .int (f_X4_carrierIn v1 v3)]) (rest := []) (wr := [oX6 q_x q_t q_b q_d q_e q_r q_s q_p xF, oX0 q_b q_bA q_bB q_bZ q_bG q_bP q_bQ bC bM bL bD, aI G q_bA 18 bA, aI G q_bB 60 bB, aI G q_bZ 45 bZ, aI G q_bP 3 bP, aI G q_bQ 3 bQ, oX2 q_r q_b q_rK q_rL q_rG, aI G q_rK 256 rK, aI G q_rL 256 rL, aI G q_rG 3 rG, oX4 q_s q_b q_r q_sZ q_sR q_sO q_sL q_sW q_sU, aI G q_sZ 64 w_sZ, aJ G q_sR 64 w_sR, aI G q_sO 256 w_sO, aI G q_sL 256 w_sL, aJ G q_sW 256 w_sW, aJ G q_sU 256 sU, aI G q_pE 260 ((f_X1_keep pS pE pN pK).1)]) (wf := [oX6 q_x q_t q_b q_d q_e q_r q_s q_p xF, oX0 q_b q_bA q_bB q_bZ q_bG q_bP q_bQ bC bM bL bD, aI G q_bA 18 bA, aI G q_bB 60 bB, aI G q_bZ 45 bZ, aI G q_bP 3 bP, aI G q_bQ 3 bQ, oX2 q_r q_b q_rK q_rL q_rG, aI G q_rK 256 rK, aI G q_rL 256 rL, aI G q_rG 3 rG, oX4 q_s q_b q_r q_sZ q_sR q_sO q_sL q_sW q_sU, aI G q_sZ 64 w_sZ, aJ G q_sR 64 w_sR, aI G q_sO 256 w_sO, aI G q_sL 256 w_sL, aJ G q_sW 256 w_sW, aJ G q_sU 256 sU, oX1 q_p q_pS q_pE ((f_X1_keep pS pE pN pK).2.1) ((f_X1_keep pS pE pN pK).2.2), aI G q_pS 26 (f_X1_setCarrier (f_X4_parcelIn v1 v3) (f_X4_carrierIn v1 v3) (f_X1_moveGood v3 (f_X4_parcelIn v1 v3) w_pS)), aI G q_pE 260 ((f_X1_keep pS pE pN pK).1)]) (c_X1_setCarrier l G q_p q_pS q_pE ((f_X1_keep pS pE pN pK).2.1) ((f_X1_keep pS pE pN pK).2.2) (f_X1_moveGood v3 (f_X4_parcelIn v1 v3) w_pS) (f_X4_parcelIn v1 v3) (f_X4_carrierIn v1 v3)) [18, 19] [0, 1, 2, 3, 4, 5, 6, 7, 8, 9, 10, 11, 12, 13, 14, 15, 16, 17, 20] [0, 1, 2, 3, 4, 5, 6, 7, 8, 9, 10, 11, 12, 13, 14, 15, 16, 17, 19, 20, 18] rfl rfl rfl (by decide) rfl rfl rfl gX6_take_X1_setCarrier ⟨_, rfl⟩ hd_X1_setCarrier rfl dX6_take_104 rfl rfl (Nat.le_of_ble_eq_true rfl) ⟨Nat.le_of_ble_eq_true rfl, Nat.le_of_ble_eq_true rfl⟩ ⟨Nat.le_refl 0, Nat.le_refl 0⟩ hx hb hml hown hts hB hD hS hA hP hl.1 (fun H locs hP hD hS => ?_)
          refine W.eq (g2 := F0 m 107 ls []) rfl ?_
          refine lv_iinc (v := (v3 + 1)) (lv' := [(3, .int (v3 + 1)), (4, .int (f_X4_parcelIn v1 v3)), (0, .ref q_x), (1, .long v1)]) hx hb dX6_take_107 hl (k := 3) rfl (by rfl) (by decide) rfl (fun ls hl => ?_)
          refine lv_goto (tgt := 65) hx hb dX6_take_110 (by decide) ?_
          have e9 : f_X6_take_L65 bM (n + 1) v1 v3 w_sZ w_sR w_sO w_sL w_sW w_pS = f_X6_take_L65 bM n v1 (v3 + 1) w_sZ w_sR w_sO w_sL w_sW (f_X1_setCarrier (f_X4_parcelIn v1 v3) (f_X4_carrierIn v1 v3) (f_X1_moveGood v3 (f_X4_parcelIn v1 v3) w_pS)) := by rw [f_X6_take_L65, if_neg c_6]
          rw [e9] at kk
          exact ih v1 (v3 + 1) w_sZ w_sR w_sO w_sL w_sW (f_X1_setCarrier (f_X4_parcelIn v1 v3) (f_X4_carrierIn v1 v3) (f_X1_moveGood v3 (f_X4_parcelIn v1 v3) w_pS)) hk _ _ hP hD hS ls (lv_sub hl [2, 3, 0] rfl) kk
    obtain ⟨hkL, hk⟩ := hk
    refine L65 FU v1 0 w_sZ w_sR w_sO w_sL w_sW (f_X1_unpack pS) hkL _ _ hP hD hS ls (lv_sub hl [1, 2, 0] rfl) (fun H locs hP hD hS ls hl => ?_)
    have hP : va_P (gD G) vwCl [oX6 q_x q_t q_b q_d q_e q_r q_s q_p xF, oX0 q_b q_bA q_bB q_bZ q_bG q_bP q_bQ bC bM bL bD, aI G q_bA 18 bA, aI G q_bB 60 bB, aI G q_bZ 45 bZ, aI G q_bP 3 bP, aI G q_bQ 3 bQ, oX2 q_r q_b q_rK q_rL q_rG, aI G q_rK 256 rK, aI G q_rL 256 rL, aI G q_rG 3 rG, oX4 q_s q_b q_r q_sZ q_sR q_sO q_sL q_sW q_sU, aI G q_sZ 64 ((f_X6_take_L65 bM FU v1 0 w_sZ w_sR w_sO w_sL w_sW (f_X1_unpack pS)).2.2.1), aJ G q_sR 64 ((f_X6_take_L65 bM FU v1 0 w_sZ w_sR w_sO w_sL w_sW (f_X1_unpack pS)).2.2.2.1), aI G q_sO 256 ((f_X6_take_L65 bM FU v1 0 w_sZ w_sR w_sO w_sL w_sW (f_X1_unpack pS)).2.2.2.2.1), aI G q_sL 256 ((f_X6_take_L65 bM FU v1 0 w_sZ w_sR w_sO w_sL w_sW (f_X1_unpack pS)).2.2.2.2.2.1), aJ G q_sW 256 ((f_X6_take_L65 bM FU v1 0 w_sZ w_sR w_sO w_sL w_sW (f_X1_unpack pS)).2.2.2.2.2.2.1), aJ G q_sU 256 sU, oX1 q_p q_pS q_pE ((f_X1_keep pS pE pN pK).2.1) ((f_X1_keep pS pE pN pK).2.2), aI G q_pS 26 ((f_X6_take_L65 bM FU v1 0 w_sZ w_sR w_sO w_sL w_sW (f_X1_unpack pS)).2.2.2.2.2.2.2), aI G q_pE 260 ((f_X1_keep pS pE pN pK).1)] H := hP
    have hD : va_D A [oX6 q_x q_t q_b q_d q_e q_r q_s q_p xF, oX0 q_b q_bA q_bB q_bZ q_bG q_bP q_bQ bC bM bL bD, aI G q_bA 18 bA, aI G q_bB 60 bB, aI G q_bZ 45 bZ, aI G q_bP 3 bP, aI G q_bQ 3 bQ, oX2 q_r q_b q_rK q_rL q_rG, aI G q_rK 256 rK, aI G q_rL 256 rL, aI G q_rG 3 rG, oX4 q_s q_b q_r q_sZ q_sR q_sO q_sL q_sW q_sU, aI G q_sZ 64 ((f_X6_take_L65 bM FU v1 0 w_sZ w_sR w_sO w_sL w_sW (f_X1_unpack pS)).2.2.1), aJ G q_sR 64 ((f_X6_take_L65 bM FU v1 0 w_sZ w_sR w_sO w_sL w_sW (f_X1_unpack pS)).2.2.2.1), aI G q_sO 256 ((f_X6_take_L65 bM FU v1 0 w_sZ w_sR w_sO w_sL w_sW (f_X1_unpack pS)).2.2.2.2.1), aI G q_sL 256 ((f_X6_take_L65 bM FU v1 0 w_sZ w_sR w_sO w_sL w_sW (f_X1_unpack pS)).2.2.2.2.2.1), aJ G q_sW 256 ((f_X6_take_L65 bM FU v1 0 w_sZ w_sR w_sO w_sL w_sW (f_X1_unpack pS)).2.2.2.2.2.2.1), aJ G q_sU 256 sU, oX1 q_p q_pS q_pE ((f_X1_keep pS pE pN pK).2.1) ((f_X1_keep pS pE pN pK).2.2), aI G q_pS 26 ((f_X6_take_L65 bM FU v1 0 w_sZ w_sR w_sO w_sL w_sW (f_X1_unpack pS)).2.2.2.2.2.2.2), aI G q_pE 260 ((f_X1_keep pS pE pN pK).1)] := hD
    refine lv_aload_n hx hb dX6_take_113 rfl (lv_at hl 0 rfl) ?_
    refine va_get (D := gD G) (ci := 6) (v := .ref q_p) (C := RX6) (T := TX6) (N := 8) hx hb hts i_X6 hown hB.1 hP 0 rfl rfl 6 (by decide) t_1 (fun _ h9 => h9) rfl dX6_take_114 ?_
    obtain ⟨o_8, hk⟩ := hk
    refine ro_V (ci := 1) (q0 := 18) (As := []) (rest := []) (c_X1_filledParcels l G q_p q_pS q_pE ((f_X1_keep pS pE pN pK).2.1) ((f_X1_keep pS pE pN pK).2.2) ((f_X6_take_L65 bM FU v1 0 w_sZ w_sR w_sO w_sL w_sW (f_X1_unpack pS)).2.2.2.2.2.2.2) o_8) [18, 19] rfl rfl rfl rfl gX6_take_X1_filledParcels ⟨_, rfl⟩ hd_X1_filledParcels rfl dX6_take_117 rfl rfl (Nat.le_of_ble_eq_true rfl) ⟨Nat.le_of_ble_eq_true rfl, Nat.le_of_ble_eq_true rfl⟩ ⟨Nat.le_refl 0, Nat.le_refl 0⟩ hx hb hml hown hts hB hS hP hl.1 ?_
    refine W.eq (g2 := F0 m 120 ls [.int (f_X1_filledParcels ((f_X6_take_L65 bM FU v1 0 w_sZ w_sR w_sO w_sL w_sW (f_X1_unpack pS)).2.2.2.2.2.2.2))]) rfl ?_
    obtain ⟨o_9, hk⟩ := hk
    refine ro_S (As := [.int (f_X1_filledParcels ((f_X6_take_L65 bM FU v1 0 w_sZ w_sR w_sO w_sL w_sW (f_X1_unpack pS)).2.2.2.2.2.2.2))]) (rest := []) (c_J6_bitCount_0f7a4 l G (f_X1_filledParcels ((f_X6_take_L65 bM FU v1 0 w_sZ w_sR w_sO w_sL w_sW (f_X1_unpack pS)).2.2.2.2.2.2.2)) o_9) [] rfl gX6_take_J6_bitCount_0f7a4 ⟨_, rfl⟩ hd_J6_bitCount_0f7a4 dX6_take_120 rfl rfl (Nat.le_of_ble_eq_true rfl) ⟨Nat.le_of_ble_eq_true rfl, Nat.le_of_ble_eq_true rfl⟩ ⟨Nat.le_refl 0, Nat.le_refl 0⟩ hx hb hml hown hts hB hS hP hl.1 ?_
    refine W.eq (g2 := F0 m 123 ls [.int (f_J6_bitCount_0f7a4 (f_X1_filledParcels ((f_X6_take_L65 bM FU v1 0 w_sZ w_sR w_sO w_sL w_sW (f_X1_unpack pS)).2.2.2.2.2.2.2)))]) rfl ?_
    have e9 : f_X6_take rK rL rG sZ sR sO sL sW sU pS pE bA bB bZ bP bQ pN pK bC bM = ((f_J6_bitCount_0f7a4 (f_X1_filledParcels ((f_X6_take_L65 bM FU v1 0 w_sZ w_sR w_sO w_sL w_sW (f_X1_unpack pS)).2.2.2.2.2.2.2))), ((f_X6_take_L65 bM FU v1 0 w_sZ w_sR w_sO w_sL w_sW (f_X1_unpack pS)).2.2.1), ((f_X6_take_L65 bM FU v1 0 w_sZ w_sR w_sO w_sL w_sW (f_X1_unpack pS)).2.2.2.1), ((f_X6_take_L65 bM FU v1 0 w_sZ w_sR w_sO w_sL w_sW (f_X1_unpack pS)).2.2.2.2.1), ((f_X6_take_L65 bM FU v1 0 w_sZ w_sR w_sO w_sL w_sW (f_X1_unpack pS)).2.2.2.2.2.1), ((f_X6_take_L65 bM FU v1 0 w_sZ w_sR w_sO w_sL w_sW (f_X1_unpack pS)).2.2.2.2.2.2.1), ((f_X6_take_L65 bM FU v1 0 w_sZ w_sR w_sO w_sL w_sW (f_X1_unpack pS)).2.2.2.2.2.2.2), ((f_X1_keep pS pE pN pK).1), ((f_X1_keep pS pE pN pK).2.1), ((f_X1_keep pS pE pN pK).2.2)) := by rw [hv, f_X6_take_L49]
    exact fi 123 _ (f_J6_bitCount_0f7a4 (f_X1_filledParcels ((f_X6_take_L65 bM FU v1 0 w_sZ w_sR w_sO w_sL w_sW (f_X1_unpack pS)).2.2.2.2.2.2.2))) .int _ _ rfl rfl dX6_take_123 (by simp only [e9]) (by rw [e9]; exact hP) (by rw [e9]; exact hD) hS
  rw [k_X6_take] at hk
  refine lv_aload_n hx hb dX6_take_0 rfl (lv_at hl 0 rfl) ?_
  refine va_get (D := gD G) (ci := 6) (v := .ref q_s) (C := RX6) (T := TX6) (N := 8) hx hb hts i_X6 hown hB.1 hP 0 rfl rfl 5 (by decide) t_0 (fun _ h9 => h9) rfl dX6_take_1 ?_
  refine lv_aload_n hx hb dX6_take_4 rfl (lv_at hl 0 rfl) ?_
  refine va_get (D := gD G) (ci := 6) (v := .ref q_p) (C := RX6) (T := TX6) (N := 8) hx hb hts i_X6 hown hB.1 hP 0 rfl rfl 6 (by decide) t_1 (fun _ h9 => h9) rfl dX6_take_5 ?_
  refine ro_V (ci := 1) (q0 := 18) (As := []) (rest := [.ref q_s]) (c_X1_place l G q_p q_pS q_pE pN pK pS) [18, 19] rfl rfl rfl rfl gX6_take_X1_place ⟨_, rfl⟩ hd_X1_place rfl dX6_take_8 rfl rfl (Nat.le_of_ble_eq_true rfl) ⟨Nat.le_of_ble_eq_true rfl, Nat.le_of_ble_eq_true rfl⟩ ⟨Nat.le_refl 0, Nat.le_refl 0⟩ hx hb hml hown hts hB hS hP hl.1 ?_
  refine W.eq (g2 := F0 m 11 ls [.int (f_X1_place pS), .ref q_s]) rfl ?_
  refine lv_aload_n hx hb dX6_take_11 rfl (lv_at hl 0 rfl) ?_
  refine va_get (D := gD G) (ci := 6) (v := .ref q_p) (C := RX6) (T := TX6) (N := 8) hx hb hts i_X6 hown hB.1 hP 0 rfl rfl 6 (by decide) t_1 (fun _ h9 => h9) rfl dX6_take_12 ?_
  refine ro_V (ci := 1) (q0 := 18) (As := []) (rest := [.int (f_X1_place pS), .ref q_s]) (c_X1_day l G q_p q_pS q_pE pN pK pS) [18, 19] rfl rfl rfl rfl gX6_take_X1_day ⟨_, rfl⟩ hd_X1_day rfl dX6_take_15 rfl rfl (Nat.le_of_ble_eq_true rfl) ⟨Nat.le_of_ble_eq_true rfl, Nat.le_of_ble_eq_true rfl⟩ ⟨Nat.le_refl 0, Nat.le_refl 0⟩ hx hb hml hown hts hB hS hP hl.1 ?_
  refine W.eq (g2 := F0 m 18 ls [.int (f_X1_day pS), .int (f_X1_place pS), .ref q_s]) rfl ?_
  obtain ⟨o_1, hk⟩ := hk
  refine wr_V (ci := 4) (q0 := 11) (As := [.int (f_X1_place pS), .int (f_X1_day pS)]) (rest := []) (wr := [oX6 q_x q_t q_b q_d q_e q_r q_s q_p xF, oX1 q_p q_pS q_pE pN pK, aI G q_pS 26 pS, aI G q_pE 260 pE]) (wf := [oX6 q_x q_t q_b q_d q_e q_r q_s q_p xF, oX0 q_b q_bA q_bB q_bZ q_bG q_bP q_bQ bC bM bL bD, aI G q_bA 18 bA, aI G q_bB 60 bB, aI G q_bZ 45 bZ, aI G q_bP 3 bP, aI G q_bQ 3 bQ, oX2 q_r q_b q_rK q_rL q_rG, aI G q_rK 256 rK, aI G q_rL 256 rL, aI G q_rG 3 rG, oX4 q_s q_b q_r q_sZ q_sR q_sO q_sL q_sW q_sU, aI G q_sZ 64 ((f_X4_leastCharge (f_X1_place pS) (f_X1_day pS) rK rL rG sZ sR sO sL sW sU bA bB bZ bP bQ bC bM).2.1), aJ G q_sR 64 ((f_X4_leastCharge (f_X1_place pS) (f_X1_day pS) rK rL rG sZ sR sO sL sW sU bA bB bZ bP bQ bC bM).2.2.1), aI G q_sO 256 ((f_X4_leastCharge (f_X1_place pS) (f_X1_day pS) rK rL rG sZ sR sO sL sW sU bA bB bZ bP bQ bC bM).2.2.2.1), aI G q_sL 256 ((f_X4_leastCharge (f_X1_place pS) (f_X1_day pS) rK rL rG sZ sR sO sL sW sU bA bB bZ bP bQ bC bM).2.2.2.2.1), aJ G q_sW 256 ((f_X4_leastCharge (f_X1_place pS) (f_X1_day pS) rK rL rG sZ sR sO sL sW sU bA bB bZ bP bQ bC bM).2.2.2.2.2), aJ G q_sU 256 sU, oX1 q_p q_pS q_pE pN pK, aI G q_pS 26 pS, aI G q_pE 260 pE]) (c_X4_leastCharge l G q_b q_bA q_bB q_bZ q_bG q_bP q_bQ q_r q_rK q_rL q_rG q_s q_sZ q_sR q_sO q_sL q_sW q_sU bC bM bL bD bA bB bZ bP bQ rK rL rG sZ sR sO sL sW sU (f_X1_place pS) (f_X1_day pS) o_1) [1, 2, 3, 4, 5, 6, 7, 8, 9, 10, 11, 12, 13, 14, 15, 16, 17] [0, 18, 19, 20] [0, 4, 5, 6, 7, 8, 9, 10, 11, 12, 13, 14, 15, 16, 17, 18, 19, 20, 1, 2, 3] rfl rfl rfl (by decide) rfl rfl rfl gX6_take_X4_leastCharge ⟨_, rfl⟩ hd_X4_leastCharge rfl dX6_take_18 rfl rfl (Nat.le_of_ble_eq_true rfl) ⟨Nat.le_of_ble_eq_true rfl, Nat.le_of_ble_eq_true rfl⟩ ⟨Nat.le_refl 0, Nat.le_refl 0⟩ hx hb hml hown hts hB hD hS hA hP hl.1 (fun H locs hP hD hS => ?_)
  refine W.eq (g2 := F0 m 21 ls [.int ((f_X4_leastCharge (f_X1_place pS) (f_X1_day pS) rK rL rG sZ sR sO sL sW sU bA bB bZ bP bQ bC bM).1)]) rfl ?_
  refine lv_if_ge (tgt := 27) hx hb dX6_take_21 (by decide) (fun c_2 => ?_) (fun c_2 => ?_)
  · rw [if_pos c_2] at hk
    refine lv_aload_n hx hb dX6_take_27 rfl (lv_at hl 0 rfl) ?_
    refine va_get (D := gD G) (ci := 6) (v := .ref q_s) (C := RX6) (T := TX6) (N := 8) hx hb hts i_X6 hown hB.1 hP 0 rfl rfl 5 (by decide) t_0 (fun _ h9 => h9) rfl dX6_take_28 ?_
    refine lv_aload_n hx hb dX6_take_31 rfl (lv_at hl 0 rfl) ?_
    refine va_get (D := gD G) (ci := 6) (v := .ref q_p) (C := RX6) (T := TX6) (N := 8) hx hb hts i_X6 hown hB.1 hP 0 rfl rfl 6 (by decide) t_1 (fun _ h9 => h9) rfl dX6_take_32 ?_
    refine ro_V (ci := 1) (q0 := 18) (As := []) (rest := [.ref q_s]) (c_X1_place l G q_p q_pS q_pE pN pK pS) [18, 19] rfl rfl rfl rfl gX6_take_X1_place ⟨_, rfl⟩ hd_X1_place rfl dX6_take_35 rfl rfl (Nat.le_of_ble_eq_true rfl) ⟨Nat.le_of_ble_eq_true rfl, Nat.le_of_ble_eq_true rfl⟩ ⟨Nat.le_refl 0, Nat.le_refl 0⟩ hx hb hml hown hts hB hS hP hl.1 ?_
    refine W.eq (g2 := F0 m 38 ls [.int (f_X1_place pS), .ref q_s]) rfl ?_
    refine lv_aload_n hx hb dX6_take_38 rfl (lv_at hl 0 rfl) ?_
    refine va_get (D := gD G) (ci := 6) (v := .ref q_p) (C := RX6) (T := TX6) (N := 8) hx hb hts i_X6 hown hB.1 hP 0 rfl rfl 6 (by decide) t_1 (fun _ h9 => h9) rfl dX6_take_39 ?_
    refine ro_V (ci := 1) (q0 := 18) (As := []) (rest := [.int (f_X1_place pS), .ref q_s]) (c_X1_day l G q_p q_pS q_pE pN pK pS) [18, 19] rfl rfl rfl rfl gX6_take_X1_day ⟨_, rfl⟩ hd_X1_day rfl dX6_take_42 rfl rfl (Nat.le_of_ble_eq_true rfl) ⟨Nat.le_of_ble_eq_true rfl, Nat.le_of_ble_eq_true rfl⟩ ⟨Nat.le_refl 0, Nat.le_refl 0⟩ hx hb hml hown hts hB hS hP hl.1 ?_
    refine W.eq (g2 := F0 m 45 ls [.int (f_X1_day pS), .int (f_X1_place pS), .ref q_s]) rfl ?_
    obtain ⟨o_3, hk⟩ := hk
    refine ro_V (ci := 4) (q0 := 11) (As := [.int (f_X1_place pS), .int (f_X1_day pS)]) (rest := []) (c_X4_leastRow l G q_b q_bA q_bB q_bZ q_bG q_bP q_bQ q_r q_rK q_rL q_rG q_s q_sZ q_sR q_sO q_sL q_sW q_sU bC bM bL bD bZ bQ ((f_X4_leastCharge (f_X1_place pS) (f_X1_day pS) rK rL rG sZ sR sO sL sW sU bA bB bZ bP bQ bC bM).2.2.1) (f_X1_place pS) (f_X1_day pS) o_3) [1, 4, 6, 7, 11, 13] rfl rfl rfl rfl gX6_take_X4_leastRow ⟨_, rfl⟩ hd_X4_leastRow rfl dX6_take_45 rfl rfl (Nat.le_of_ble_eq_true rfl) ⟨Nat.le_of_ble_eq_true rfl, Nat.le_of_ble_eq_true rfl⟩ ⟨Nat.le_refl 0, Nat.le_refl 0⟩ hx hb hml hown hts hB hS hP hl.1 ?_
    refine W.eq (g2 := F0 m 48 ls [.long (f_X4_leastRow (f_X1_place pS) (f_X1_day pS) ((f_X4_leastCharge (f_X1_place pS) (f_X1_day pS) rK rL rG sZ sR sO sL sW sU bA bB bZ bP bQ bC bM).2.2.1) bZ bQ bC)]) rfl ?_
    refine lv_lstore_n (lv' := [(1, .long (f_X4_leastRow (f_X1_place pS) (f_X1_day pS) ((f_X4_leastCharge (f_X1_place pS) (f_X1_day pS) rK rL rG sZ sR sO sL sW sU bA bB bZ bP bQ bC bM).2.2.1) bZ bQ bC)), (0, .ref q_x)]) hx hb dX6_take_48 rfl hl (by decide) rfl (fun ls hl => ?_)
    exact T49 (f_X4_leastRow (f_X1_place pS) (f_X1_day pS) ((f_X4_leastCharge (f_X1_place pS) (f_X1_day pS) rK rL rG sZ sR sO sL sW sU bA bB bZ bP bQ bC bM).2.2.1) bZ bQ bC) ((f_X4_leastCharge (f_X1_place pS) (f_X1_day pS) rK rL rG sZ sR sO sL sW sU bA bB bZ bP bQ bC bM).2.1) ((f_X4_leastCharge (f_X1_place pS) (f_X1_day pS) rK rL rG sZ sR sO sL sW sU bA bB bZ bP bQ bC bM).2.2.1) ((f_X4_leastCharge (f_X1_place pS) (f_X1_day pS) rK rL rG sZ sR sO sL sW sU bA bB bZ bP bQ bC bM).2.2.2.1) ((f_X4_leastCharge (f_X1_place pS) (f_X1_day pS) rK rL rG sZ sR sO sL sW sU bA bB bZ bP bQ bC bM).2.2.2.2.1) ((f_X4_leastCharge (f_X1_place pS) (f_X1_day pS) rK rL rG sZ sR sO sL sW sU bA bB bZ bP bQ bC bM).2.2.2.2.2) hk (by rw [f_X6_take, if_pos c_2]) _ _ hP hD hS ls (lv_sub hl [1, 0] rfl)
  · rw [if_neg c_2] at hk
    refine lv_bipush (v := (-2)) hx hb dX6_take_24 (by decide) ?_
    have e9 : f_X6_take rK rL rG sZ sR sO sL sW sU pS pE bA bB bZ bP bQ pN pK bC bM = ((-2), ((f_X4_leastCharge (f_X1_place pS) (f_X1_day pS) rK rL rG sZ sR sO sL sW sU bA bB bZ bP bQ bC bM).2.1), ((f_X4_leastCharge (f_X1_place pS) (f_X1_day pS) rK rL rG sZ sR sO sL sW sU bA bB bZ bP bQ bC bM).2.2.1), ((f_X4_leastCharge (f_X1_place pS) (f_X1_day pS) rK rL rG sZ sR sO sL sW sU bA bB bZ bP bQ bC bM).2.2.2.1), ((f_X4_leastCharge (f_X1_place pS) (f_X1_day pS) rK rL rG sZ sR sO sL sW sU bA bB bZ bP bQ bC bM).2.2.2.2.1), ((f_X4_leastCharge (f_X1_place pS) (f_X1_day pS) rK rL rG sZ sR sO sL sW sU bA bB bZ bP bQ bC bM).2.2.2.2.2), pS, pE, pN, pK) := by rw [f_X6_take, if_neg c_2]
    exact fi 26 _ (-2) .int _ _ rfl rfl dX6_take_26 (by simp only [e9]) (by rw [e9]; exact hP) (by rw [e9]; exact hD) hS

def f_X6_claim (x1 : Int32) (x2 : Int32) (pS : Nat → Int32) (pE : Nat → Int32) (pN : Int32) (pK : Int32) : Int32 × (Nat → Int32) × (Nat → Int32) × Int32 × Int32 := (if (f_X6_isParcel x1) = 0 then ((-1), pS, pE, pN, pK) else (if x2 < 0 then ((-1), pS, pE, pN, pK) else (if 99 < x2 then ((-1), pS, pE, pN, pK) else (if (f_X1_goodsIn x1 pS) = 0 then ((-1), pS, pE, pN, pK) else ((f_X1_claimedOf x1 pS), f_X1_setClaimed x1 x2 pS, ((f_X1_keep pS pE pN pK).1), ((f_X1_keep pS pE pN pK).2.1), ((f_X1_keep pS pE pN pK).2.2))))))
def k_X6_claim (x1 : Int32) (x2 : Int32) (pS : Nat → Int32) (pE : Nat → Int32) (pN : Int32) : Prop := (if (f_X6_isParcel x1) = 0 then True else (if x2 < 0 then True else (if 99 < x2 then True else (k_X1_goodsIn x1 pS ∧ (if (f_X1_goodsIn x1 pS) = 0 then True else (k_X1_keep pS pE pN ∧ True))))))
theorem hd_X6_claim : yX6_claim.cls ≠ "java/lang/invoke/MethodHandle" ∧ yX6_claim.cls ≠ "java/lang/invoke/VarHandle" ∧ (parseMethodDescriptor yX6_claim.desc).map (fun d => d.parameters.length) = some 2 := by decide +kernel
set_option maxHeartbeats 4000000 in
set_option maxRecDepth 100000 in
theorem c_X6_claim (l : Launch) (G : BGT) (q_x q_t q_b q_d q_e q_r q_s q_p q_pS q_pE : Nat) (xF : Int32) (pN : Int32) (pK : Int32) (pS : Nat → Int32) (pE : Nat → Int32) (x1 : Int32) (x2 : Int32) (hk : k_X6_claim x1 x2 pS pE pN) : WR l yX6_claim wsX6_claim 3 G [oX6 q_x q_t q_b q_d q_e q_r q_s q_p xF, oX1 q_p q_pS q_pE pN pK, aI G q_pS 26 pS, aI G q_pE 260 pE] [oX6 q_x q_t q_b q_d q_e q_r q_s q_p xF, oX1 q_p q_pS q_pE ((f_X6_claim x1 x2 pS pE pN pK).2.2.2.1) ((f_X6_claim x1 x2 pS pE pN pK).2.2.2.2), aI G q_pS 26 ((f_X6_claim x1 x2 pS pE pN pK).2.1), aI G q_pE 260 ((f_X6_claim x1 x2 pS pE pN pK).2.2.1)] [.ref q_x, .int x1, .int x2] (some (.int ((f_X6_claim x1 x2 pS pE pN pK).1))) := by
  refine WR.ofW (cc := cX6_claim) (maxL := 4) (ret := (some .int)) (C := RX6) (by decide) rfl rfl (Nat.le_of_ble_eq_true rfl) ?_
  intro p e s m args below meth c Q ls A hx hb hml hts hown hP hD hS hA hB hl fi fv
  have hl : lv_has ls 4 [(0, .ref q_x), (1, .int x1), (2, .int x2)] := hl
  have t_0 := hts (.fieldLink RX6 56 "ParcelSplit" "plan" "LParcelSplit$Plan;") (by decide +kernel)
  have i_X6 : ∀ w ∈ wsX60, w ∈ wsX6_claim := by decide +kernel
  rw [k_X6_claim] at hk
  refine lv_iload_n hx hb dX6_claim_0 rfl (lv_at hl 1 rfl) ?_
  refine ro_S (As := [.int x1]) (rest := []) (c_X6_isParcel l G x1) [] rfl gX6_claim_X6_isParcel ⟨_, rfl⟩ hd_X6_isParcel dX6_claim_1 rfl rfl (Nat.le_of_ble_eq_true rfl) ⟨Nat.le_of_ble_eq_true rfl, Nat.le_of_ble_eq_true rfl⟩ ⟨Nat.le_refl 0, Nat.le_refl 0⟩ hx hb hml hown hts hB hS hP hl.1 ?_
  refine W.eq (g2 := F0 m 4 ls [.int (f_X6_isParcel x1)]) rfl ?_
  refine lv_if_eq (tgt := 28) hx hb dX6_claim_4 (by decide) (fun c_1 => ?_) (fun c_1 => ?_)
  · rw [if_pos c_1] at hk
    refine lv_iconst (v := (-1)) hx hb dX6_claim_28 (by decide) ?_
    have e9 : f_X6_claim x1 x2 pS pE pN pK = ((-1), pS, pE, pN, pK) := by rw [f_X6_claim, if_pos c_1]
    exact fi 29 _ (-1) .int _ _ rfl rfl dX6_claim_29 (by simp only [e9]) (by rw [e9]; exact hP) (by rw [e9]; exact hD) hS
  · rw [if_neg c_1] at hk
    refine lv_iload_n hx hb dX6_claim_7 rfl (lv_at hl 2 rfl) ?_
    refine lv_if_lt (tgt := 28) hx hb dX6_claim_8 (by decide) (fun c_2 => ?_) (fun c_2 => ?_)
    · rw [if_pos c_2] at hk
      refine lv_iconst (v := (-1)) hx hb dX6_claim_28 (by decide) ?_
      have e9 : f_X6_claim x1 x2 pS pE pN pK = ((-1), pS, pE, pN, pK) := by rw [f_X6_claim, if_neg c_1, if_pos c_2]
      exact fi 29 _ (-1) .int _ _ rfl rfl dX6_claim_29 (by simp only [e9]) (by rw [e9]; exact hP) (by rw [e9]; exact hD) hS
    · rw [if_neg c_2] at hk
      refine lv_iload_n hx hb dX6_claim_11 rfl (lv_at hl 2 rfl) ?_
      refine lv_bipush (v := 99) hx hb dX6_claim_12 (by decide) ?_
      refine lv_icmp_gt (tgt := 28) hx hb dX6_claim_14 (by decide) (fun c_3 => ?_) (fun c_3 => ?_)
      · rw [if_pos c_3] at hk
        refine lv_iconst (v := (-1)) hx hb dX6_claim_28 (by decide) ?_
        have e9 : f_X6_claim x1 x2 pS pE pN pK = ((-1), pS, pE, pN, pK) := by rw [f_X6_claim, if_neg c_1, if_neg c_2, if_pos c_3]
        exact fi 29 _ (-1) .int _ _ rfl rfl dX6_claim_29 (by simp only [e9]) (by rw [e9]; exact hP) (by rw [e9]; exact hD) hS
      · rw [if_neg c_3] at hk
        refine lv_aload_n hx hb dX6_claim_17 rfl (lv_at hl 0 rfl) ?_
        refine va_get (D := gD G) (ci := 6) (v := .ref q_p) (C := RX6) (T := TX6) (N := 8) hx hb hts i_X6 hown hB.1 hP 0 rfl rfl 6 (by decide) t_0 (fun _ h9 => h9) rfl dX6_claim_18 ?_
        refine lv_iload_n hx hb dX6_claim_21 rfl (lv_at hl 1 rfl) ?_
        obtain ⟨o_4, hk⟩ := hk
        refine ro_V (ci := 1) (q0 := 1) (As := [.int x1]) (rest := []) (c_X1_goodsIn l G q_p q_pS q_pE pN pK pS x1 o_4) [1, 2] rfl rfl rfl rfl gX6_claim_X1_goodsIn ⟨_, rfl⟩ hd_X1_goodsIn rfl dX6_claim_22 rfl rfl (Nat.le_of_ble_eq_true rfl) ⟨Nat.le_of_ble_eq_true rfl, Nat.le_of_ble_eq_true rfl⟩ ⟨Nat.le_refl 0, Nat.le_refl 0⟩ hx hb hml hown hts hB hS hP hl.1 ?_
        refine W.eq (g2 := F0 m 25 ls [.int (f_X1_goodsIn x1 pS)]) rfl ?_
        refine lv_if_ne (tgt := 30) hx hb dX6_claim_25 (by decide) (fun c_5 => ?_) (fun c_5 => ?_)
        · rw [if_neg c_5] at hk
          refine lv_aload_n hx hb dX6_claim_30 rfl (lv_at hl 0 rfl) ?_
          refine va_get (D := gD G) (ci := 6) (v := .ref q_p) (C := RX6) (T := TX6) (N := 8) hx hb hts i_X6 hown hB.1 hP 0 rfl rfl 6 (by decide) t_0 (fun _ h9 => h9) rfl dX6_claim_31 ?_
          refine lv_iload_n hx hb dX6_claim_34 rfl (lv_at hl 1 rfl) ?_
          refine ro_V (ci := 1) (q0 := 1) (As := [.int x1]) (rest := []) (c_X1_claimedOf l G q_p q_pS q_pE pN pK pS x1) [1, 2] rfl rfl rfl rfl gX6_claim_X1_claimedOf ⟨_, rfl⟩ hd_X1_claimedOf rfl dX6_claim_35 rfl rfl (Nat.le_of_ble_eq_true rfl) ⟨Nat.le_of_ble_eq_true rfl, Nat.le_of_ble_eq_true rfl⟩ ⟨Nat.le_refl 0, Nat.le_refl 0⟩ hx hb hml hown hts hB hS hP hl.1 ?_
          refine W.eq (g2 := F0 m 38 ls [.int (f_X1_claimedOf x1 pS)]) rfl ?_
          refine lv_istore_n (lv' := [(3, .int (f_X1_claimedOf x1 pS)), (0, .ref q_x), (1, .int x1), (2, .int x2)]) hx hb dX6_claim_38 rfl hl (by decide) rfl (fun ls hl => ?_)
          refine lv_aload_n hx hb dX6_claim_39 rfl (lv_at hl 1 rfl) ?_
          refine va_get (D := gD G) (ci := 6) (v := .ref q_p) (C := RX6) (T := TX6) (N := 8) hx hb hts i_X6 hown hB.1 hP 0 rfl rfl 6 (by decide) t_0 (fun _ h9 => h9) rfl dX6_claim_40 ?_
          obtain ⟨o_6, hk⟩ := hk
          refine wr_V (ci := 1) (q0 := 1) (As := []) (rest := []) (wr := [oX6 q_x q_t q_b q_d q_e q_r q_s q_p xF]) (wf := [oX6 q_x q_t q_b q_d q_e q_r q_s q_p xF, oX1 q_p q_pS q_pE ((f_X1_keep pS pE pN pK).2.1) ((f_X1_keep pS pE pN pK).2.2), aI G q_pS 26 pS, aI G q_pE 260 ((f_X1_keep pS pE pN pK).1)]) (c_X1_keep l G q_p q_pS q_pE pN pK pS pE o_6) [1, 2, 3] [0] [0, 1, 2, 3] rfl rfl rfl (by decide) rfl rfl rfl gX6_claim_X1_keep ⟨_, rfl⟩ hd_X1_keep rfl dX6_claim_43 rfl rfl (Nat.le_of_ble_eq_true rfl) ⟨Nat.le_of_ble_eq_true rfl, Nat.le_of_ble_eq_true rfl⟩ ⟨Nat.le_refl 0, Nat.le_refl 0⟩ hx hb hml hown hts hB hD hS hA hP hl.1 (fun H locs hP hD hS => ?_)
          refine W.eq (g2 := F0 m 46 ls []) rfl ?_
          refine lv_aload_n hx hb dX6_claim_46 rfl (lv_at hl 1 rfl) ?_
          refine va_get (D := gD G) (ci := 6) (v := .ref q_p) (C := RX6) (T := TX6) (N := 8) hx hb hts i_X6 hown hB.1 hP 0 rfl rfl 6 (by decide) t_0 (fun _ h9 => h9) rfl dX6_claim_47 ?_
          refine lv_iload_n hx hb dX6_claim_50 rfl (lv_at hl 2 rfl) ?_
          refine lv_iload_n hx hb dX6_claim_51 rfl (lv_at hl 3 rfl) ?_
          refine wr_V (ci := 1) (q0 := 1) (As := [.int x1, .int x2]) (rest := []) (wr := [oX6 q_x q_t q_b q_d q_e q_r q_s q_p xF, aI G q_pE 260 ((f_X1_keep pS pE pN pK).1)]) (wf := [oX6 q_x q_t q_b q_d q_e q_r q_s q_p xF, oX1 q_p q_pS q_pE ((f_X1_keep pS pE pN pK).2.1) ((f_X1_keep pS pE pN pK).2.2), aI G q_pS 26 (f_X1_setClaimed x1 x2 pS), aI G q_pE 260 ((f_X1_keep pS pE pN pK).1)]) (c_X1_setClaimed l G q_p q_pS q_pE ((f_X1_keep pS pE pN pK).2.1) ((f_X1_keep pS pE pN pK).2.2) pS x1 x2) [1, 2] [0, 3] [0, 2, 3, 1] rfl rfl rfl (by decide) rfl rfl rfl gX6_claim_X1_setClaimed ⟨_, rfl⟩ hd_X1_setClaimed rfl dX6_claim_52 rfl rfl (Nat.le_of_ble_eq_true rfl) ⟨Nat.le_of_ble_eq_true rfl, Nat.le_of_ble_eq_true rfl⟩ ⟨Nat.le_refl 0, Nat.le_refl 0⟩ hx hb hml hown hts hB hD hS hA hP hl.1 (fun H locs hP hD hS => ?_)
          refine W.eq (g2 := F0 m 55 ls []) rfl ?_
          refine lv_iload_n hx hb dX6_claim_55 rfl (lv_at hl 0 rfl) ?_
          have e9 : f_X6_claim x1 x2 pS pE pN pK = ((f_X1_claimedOf x1 pS), f_X1_setClaimed x1 x2 pS, ((f_X1_keep pS pE pN pK).1), ((f_X1_keep pS pE pN pK).2.1), ((f_X1_keep pS pE pN pK).2.2)) := by rw [f_X6_claim, if_neg c_1, if_neg c_2, if_neg c_3, if_neg c_5]
          exact fi 56 _ (f_X1_claimedOf x1 pS) .int _ _ rfl rfl dX6_claim_56 (by simp only [e9]) (by rw [e9]; exact hP) (by rw [e9]; exact hD) hS
        · rw [if_pos c_5] at hk
          refine lv_iconst (v := (-1)) hx hb dX6_claim_28 (by decide) ?_
          have e9 : f_X6_claim x1 x2 pS pE pN pK = ((-1), pS, pE, pN, pK) := by rw [f_X6_claim, if_neg c_1, if_neg c_2, if_neg c_3, if_pos c_5]
          exact fi 29 _ (-1) .int _ _ rfl rfl dX6_claim_29 (by simp only [e9]) (by rw [e9]; exact hP) (by rw [e9]; exact hD) hS

def f_X6_order (x1 : Int32) (x2 : Int32) (pS : Nat → Int32) (pE : Nat → Int32) (pN : Int32) (pK : Int32) : Int32 × (Nat → Int32) × (Nat → Int32) × Int32 × Int32 := (if (f_X6_isOrder x1 x2) = 0 then (0, pS, pE, pN, pK) else (1, f_X1_setOrder x1 x2 pS, ((f_X1_keep pS pE pN pK).1), ((f_X1_keep pS pE pN pK).2.1), ((f_X1_keep pS pE pN pK).2.2)))
def k_X6_order (x1 : Int32) (x2 : Int32) (pS : Nat → Int32) (pE : Nat → Int32) (pN : Int32) : Prop := (if (f_X6_isOrder x1 x2) = 0 then True else (k_X1_keep pS pE pN ∧ True))
theorem hd_X6_order : yX6_order.cls ≠ "java/lang/invoke/MethodHandle" ∧ yX6_order.cls ≠ "java/lang/invoke/VarHandle" ∧ (parseMethodDescriptor yX6_order.desc).map (fun d => d.parameters.length) = some 2 := by decide +kernel
set_option maxHeartbeats 4000000 in
set_option maxRecDepth 100000 in
theorem c_X6_order (l : Launch) (G : BGT) (q_x q_t q_b q_d q_e q_r q_s q_p q_pS q_pE : Nat) (xF : Int32) (pN : Int32) (pK : Int32) (pS : Nat → Int32) (pE : Nat → Int32) (x1 : Int32) (x2 : Int32) (hk : k_X6_order x1 x2 pS pE pN) : WR l yX6_order wsX6_order 3 G [oX6 q_x q_t q_b q_d q_e q_r q_s q_p xF, oX1 q_p q_pS q_pE pN pK, aI G q_pS 26 pS, aI G q_pE 260 pE] [oX6 q_x q_t q_b q_d q_e q_r q_s q_p xF, oX1 q_p q_pS q_pE ((f_X6_order x1 x2 pS pE pN pK).2.2.2.1) ((f_X6_order x1 x2 pS pE pN pK).2.2.2.2), aI G q_pS 26 ((f_X6_order x1 x2 pS pE pN pK).2.1), aI G q_pE 260 ((f_X6_order x1 x2 pS pE pN pK).2.2.1)] [.ref q_x, .int x1, .int x2] (some (.int ((f_X6_order x1 x2 pS pE pN pK).1))) := by
  refine WR.ofW (cc := cX6_order) (maxL := 3) (ret := (some .boolean)) (C := RX6) (by decide) rfl rfl (Nat.le_of_ble_eq_true rfl) ?_
  intro p e s m args below meth c Q ls A hx hb hml hts hown hP hD hS hA hB hl fi fv
  have hl : lv_has ls 3 [(0, .ref q_x), (1, .int x1), (2, .int x2)] := hl
  have t_0 := hts (.fieldLink RX6 56 "ParcelSplit" "plan" "LParcelSplit$Plan;") (by decide +kernel)
  have i_X6 : ∀ w ∈ wsX60, w ∈ wsX6_order := by decide +kernel
  rw [k_X6_order] at hk
  refine lv_iload_n hx hb dX6_order_0 rfl (lv_at hl 1 rfl) ?_
  refine lv_iload_n hx hb dX6_order_1 rfl (lv_at hl 2 rfl) ?_
  refine ro_S (As := [.int x1, .int x2]) (rest := []) (c_X6_isOrder l G x1 x2) [] rfl gX6_order_X6_isOrder ⟨_, rfl⟩ hd_X6_isOrder dX6_order_2 rfl rfl (Nat.le_of_ble_eq_true rfl) ⟨Nat.le_of_ble_eq_true rfl, Nat.le_of_ble_eq_true rfl⟩ ⟨Nat.le_refl 0, Nat.le_refl 0⟩ hx hb hml hown hts hB hS hP hl.1 ?_
  refine W.eq (g2 := F0 m 5 ls [.int (f_X6_isOrder x1 x2)]) rfl ?_
  refine lv_if_ne (tgt := 10) hx hb dX6_order_5 (by decide) (fun c_1 => ?_) (fun c_1 => ?_)
  · rw [if_neg c_1] at hk
    refine lv_aload_n hx hb dX6_order_10 rfl (lv_at hl 0 rfl) ?_
    refine va_get (D := gD G) (ci := 6) (v := .ref q_p) (C := RX6) (T := TX6) (N := 8) hx hb hts i_X6 hown hB.1 hP 0 rfl rfl 6 (by decide) t_0 (fun _ h9 => h9) rfl dX6_order_11 ?_
    obtain ⟨o_2, hk⟩ := hk
    refine wr_V (ci := 1) (q0 := 1) (As := []) (rest := []) (wr := [oX6 q_x q_t q_b q_d q_e q_r q_s q_p xF]) (wf := [oX6 q_x q_t q_b q_d q_e q_r q_s q_p xF, oX1 q_p q_pS q_pE ((f_X1_keep pS pE pN pK).2.1) ((f_X1_keep pS pE pN pK).2.2), aI G q_pS 26 pS, aI G q_pE 260 ((f_X1_keep pS pE pN pK).1)]) (c_X1_keep l G q_p q_pS q_pE pN pK pS pE o_2) [1, 2, 3] [0] [0, 1, 2, 3] rfl rfl rfl (by decide) rfl rfl rfl gX6_order_X1_keep ⟨_, rfl⟩ hd_X1_keep rfl dX6_order_14 rfl rfl (Nat.le_of_ble_eq_true rfl) ⟨Nat.le_of_ble_eq_true rfl, Nat.le_of_ble_eq_true rfl⟩ ⟨Nat.le_refl 0, Nat.le_refl 0⟩ hx hb hml hown hts hB hD hS hA hP hl.1 (fun H locs hP hD hS => ?_)
    refine W.eq (g2 := F0 m 17 ls []) rfl ?_
    refine lv_aload_n hx hb dX6_order_17 rfl (lv_at hl 0 rfl) ?_
    refine va_get (D := gD G) (ci := 6) (v := .ref q_p) (C := RX6) (T := TX6) (N := 8) hx hb hts i_X6 hown hB.1 hP 0 rfl rfl 6 (by decide) t_0 (fun _ h9 => h9) rfl dX6_order_18 ?_
    refine lv_iload_n hx hb dX6_order_21 rfl (lv_at hl 1 rfl) ?_
    refine lv_iload_n hx hb dX6_order_22 rfl (lv_at hl 2 rfl) ?_
    refine wr_V (ci := 1) (q0 := 1) (As := [.int x1, .int x2]) (rest := []) (wr := [oX6 q_x q_t q_b q_d q_e q_r q_s q_p xF, aI G q_pE 260 ((f_X1_keep pS pE pN pK).1)]) (wf := [oX6 q_x q_t q_b q_d q_e q_r q_s q_p xF, oX1 q_p q_pS q_pE ((f_X1_keep pS pE pN pK).2.1) ((f_X1_keep pS pE pN pK).2.2), aI G q_pS 26 (f_X1_setOrder x1 x2 pS), aI G q_pE 260 ((f_X1_keep pS pE pN pK).1)]) (c_X1_setOrder l G q_p q_pS q_pE ((f_X1_keep pS pE pN pK).2.1) ((f_X1_keep pS pE pN pK).2.2) pS x1 x2) [1, 2] [0, 3] [0, 2, 3, 1] rfl rfl rfl (by decide) rfl rfl rfl gX6_order_X1_setOrder ⟨_, rfl⟩ hd_X1_setOrder rfl dX6_order_23 rfl rfl (Nat.le_of_ble_eq_true rfl) ⟨Nat.le_of_ble_eq_true rfl, Nat.le_of_ble_eq_true rfl⟩ ⟨Nat.le_refl 0, Nat.le_refl 0⟩ hx hb hml hown hts hB hD hS hA hP hl.1 (fun H locs hP hD hS => ?_)
    refine W.eq (g2 := F0 m 26 ls []) rfl ?_
    refine lv_iconst (v := 1) hx hb dX6_order_26 (by decide) ?_
    have e9 : f_X6_order x1 x2 pS pE pN pK = (1, f_X1_setOrder x1 x2 pS, ((f_X1_keep pS pE pN pK).1), ((f_X1_keep pS pE pN pK).2.1), ((f_X1_keep pS pE pN pK).2.2)) := by rw [f_X6_order, if_neg c_1]
    exact fi 27 _ 1 .boolean _ _ rfl rfl dX6_order_27 (by simp only [e9]) (by rw [e9]; exact hP) (by rw [e9]; exact hD) hS
  · rw [if_pos c_1] at hk
    refine lv_iconst (v := 0) hx hb dX6_order_8 (by decide) ?_
    have e9 : f_X6_order x1 x2 pS pE pN pK = (0, pS, pE, pN, pK) := by rw [f_X6_order, if_pos c_1]
    exact fi 9 _ 0 .boolean _ _ rfl rfl dX6_order_9 (by simp only [e9]) (by rw [e9]; exact hP) (by rw [e9]; exact hD) hS

def f_X6_undo (pS : Nat → Int32) (pE : Nat → Int32) (pN : Int32) (pK : Int32) : Int32 × (Nat → Int32) × Int32 × Int32 := (if ((f_X1_goBack pS pE pN pK).1) = 0 then ((-1), ((f_X1_goBack pS pE pN pK).2.1), ((f_X1_goBack pS pE pN pK).2.2.1), ((f_X1_goBack pS pE pN pK).2.2.2)) else ((f_X1_keptCount ((f_X1_goBack pS pE pN pK).2.2.2)), ((f_X1_goBack pS pE pN pK).2.1), ((f_X1_goBack pS pE pN pK).2.2.1), ((f_X1_goBack pS pE pN pK).2.2.2)))
def k_X6_undo (pS : Nat → Int32) (pE : Nat → Int32) (pN : Int32) (pK : Int32) : Prop := (k_X1_goBack pS pE pN pK ∧ True)
theorem hd_X6_undo : yX6_undo.cls ≠ "java/lang/invoke/MethodHandle" ∧ yX6_undo.cls ≠ "java/lang/invoke/VarHandle" ∧ (parseMethodDescriptor yX6_undo.desc).map (fun d => d.parameters.length) = some 0 := by decide +kernel
set_option maxHeartbeats 4000000 in
set_option maxRecDepth 100000 in
theorem c_X6_undo (l : Launch) (G : BGT) (q_x q_t q_b q_d q_e q_r q_s q_p q_pS q_pE : Nat) (xF : Int32) (pN : Int32) (pK : Int32) (pS : Nat → Int32) (pE : Nat → Int32) (hk : k_X6_undo pS pE pN pK) : WR l yX6_undo wsX6_undo 3 G [oX6 q_x q_t q_b q_d q_e q_r q_s q_p xF, oX1 q_p q_pS q_pE pN pK, aI G q_pS 26 pS, aI G q_pE 260 pE] [oX6 q_x q_t q_b q_d q_e q_r q_s q_p xF, oX1 q_p q_pS q_pE ((f_X6_undo pS pE pN pK).2.2.1) ((f_X6_undo pS pE pN pK).2.2.2), aI G q_pS 26 ((f_X6_undo pS pE pN pK).2.1), aI G q_pE 260 pE] [.ref q_x] (some (.int ((f_X6_undo pS pE pN pK).1))) := by
  refine WR.ofW (cc := cX6_undo) (maxL := 1) (ret := (some .int)) (C := RX6) (by decide) rfl rfl (Nat.le_of_ble_eq_true rfl) ?_
  intro p e s m args below meth c Q ls A hx hb hml hts hown hP hD hS hA hB hl fi fv
  have hl : lv_has ls 1 [(0, .ref q_x)] := hl
  have t_0 := hts (.fieldLink RX6 56 "ParcelSplit" "plan" "LParcelSplit$Plan;") (by decide +kernel)
  have i_X6 : ∀ w ∈ wsX60, w ∈ wsX6_undo := by decide +kernel
  rw [k_X6_undo] at hk
  refine lv_aload_n hx hb dX6_undo_0 rfl (lv_at hl 0 rfl) ?_
  refine va_get (D := gD G) (ci := 6) (v := .ref q_p) (C := RX6) (T := TX6) (N := 8) hx hb hts i_X6 hown hB.1 hP 0 rfl rfl 6 (by decide) t_0 (fun _ h9 => h9) rfl dX6_undo_1 ?_
  obtain ⟨o_1, hk⟩ := hk
  refine wr_V (ci := 1) (q0 := 1) (As := []) (rest := []) (wr := [oX6 q_x q_t q_b q_d q_e q_r q_s q_p xF]) (wf := [oX6 q_x q_t q_b q_d q_e q_r q_s q_p xF, oX1 q_p q_pS q_pE ((f_X1_goBack pS pE pN pK).2.2.1) ((f_X1_goBack pS pE pN pK).2.2.2), aI G q_pS 26 ((f_X1_goBack pS pE pN pK).2.1), aI G q_pE 260 pE]) (c_X1_goBack l G q_p q_pS q_pE pN pK pS pE o_1) [1, 2, 3] [0] [0, 1, 2, 3] rfl rfl rfl (by decide) rfl rfl rfl gX6_undo_X1_goBack ⟨_, rfl⟩ hd_X1_goBack rfl dX6_undo_4 rfl rfl (Nat.le_of_ble_eq_true rfl) ⟨Nat.le_of_ble_eq_true rfl, Nat.le_of_ble_eq_true rfl⟩ ⟨Nat.le_refl 0, Nat.le_refl 0⟩ hx hb hml hown hts hB hD hS hA hP hl.1 (fun H locs hP hD hS => ?_)
  refine W.eq (g2 := F0 m 7 ls [.int ((f_X1_goBack pS pE pN pK).1)]) rfl ?_
  refine lv_if_eq (tgt := 20) hx hb dX6_undo_7 (by decide) (fun c_2 => ?_) (fun c_2 => ?_)
  · refine lv_iconst (v := (-1)) hx hb dX6_undo_20 (by decide) ?_
    have e9 : f_X6_undo pS pE pN pK = ((-1), ((f_X1_goBack pS pE pN pK).2.1), ((f_X1_goBack pS pE pN pK).2.2.1), ((f_X1_goBack pS pE pN pK).2.2.2)) := by rw [f_X6_undo, if_pos c_2]
    exact fi 21 _ (-1) .int _ _ rfl rfl dX6_undo_21 (by simp only [e9]) (by rw [e9]; exact hP) (by rw [e9]; exact hD) hS
  · refine lv_aload_n hx hb dX6_undo_10 rfl (lv_at hl 0 rfl) ?_
    refine va_get (D := gD G) (ci := 6) (v := .ref q_p) (C := RX6) (T := TX6) (N := 8) hx hb hts i_X6 hown hB.1 hP 0 rfl rfl 6 (by decide) t_0 (fun _ h9 => h9) rfl dX6_undo_11 ?_
    refine ro_V (ci := 1) (q0 := 1) (As := []) (rest := []) (c_X1_keptCount l G q_p q_pS q_pE ((f_X1_goBack pS pE pN pK).2.2.1) ((f_X1_goBack pS pE pN pK).2.2.2)) [1] rfl rfl rfl rfl gX6_undo_X1_keptCount ⟨_, rfl⟩ hd_X1_keptCount rfl dX6_undo_14 rfl rfl (Nat.le_of_ble_eq_true rfl) ⟨Nat.le_of_ble_eq_true rfl, Nat.le_of_ble_eq_true rfl⟩ ⟨Nat.le_refl 0, Nat.le_refl 0⟩ hx hb hml hown hts hB hS hP hl.1 ?_
    refine W.eq (g2 := F0 m 17 ls [.int (f_X1_keptCount ((f_X1_goBack pS pE pN pK).2.2.2))]) rfl ?_
    refine lv_goto (tgt := 21) hx hb dX6_undo_17 (by decide) ?_
    have e9 : f_X6_undo pS pE pN pK = ((f_X1_keptCount ((f_X1_goBack pS pE pN pK).2.2.2)), ((f_X1_goBack pS pE pN pK).2.1), ((f_X1_goBack pS pE pN pK).2.2.1), ((f_X1_goBack pS pE pN pK).2.2.2)) := by rw [f_X6_undo, if_neg c_2]
    exact fi 21 _ (f_X1_keptCount ((f_X1_goBack pS pE pN pK).2.2.2)) .int _ _ rfl rfl dX6_undo_21 (by simp only [e9]) (by rw [e9]; exact hP) (by rw [e9]; exact hD) hS
