noncomputable def f_X2_divideUp (x0 : Int32) (x1 : Int32) : Int32 := (if 1 ≤ x1 then (((x0 + x1) - 1) / x1) else 0)
noncomputable def k_X2_divideUp (x1 : Int32) : Prop := (if 1 ≤ x1 then (¬ x1 = 0 ∧ True) else True)
theorem hd_X2_divideUp : yX2_divideUp.cls ≠ "java/lang/invoke/MethodHandle" ∧ yX2_divideUp.cls ≠ "java/lang/invoke/VarHandle" ∧ (parseMethodDescriptor yX2_divideUp.desc).map (fun d => d.parameters.length) = some 2 := by decide +kernel
set_option maxHeartbeats 4000000 in
set_option maxRecDepth 100000 in
theorem c_X2_divideUp (l : Launch) (G : BGT) (x0 : Int32) (x1 : Int32) (hk : k_X2_divideUp x1) : RO l yX2_divideUp wsX2_divideUp 0 G [] [.int x0, .int x1] (some (.int (f_X2_divideUp x0 x1))) := by
  refine RO.ofW (cc := cX2_divideUp) (maxL := 2) (ret := (some .int)) (C := RX2) (by decide) rfl rfl (Nat.le_of_ble_eq_true rfl) ?_
  intro p e s m args below meth c Q ls hx hb hml hts hown hP hB hl fi fl fv
  have hS : va_S (fun _ => False) s.heap s.heap [] := va_S.rf
  have hl : lv_has ls 2 [(0, .int x0), (1, .int x1)] := hl
  rw [k_X2_divideUp] at hk
  refine lv_iload_n hx hb dX2_divideUp_0 rfl (lv_at hl 1 rfl) ?_
  refine lv_iconst (v := 1) hx hb dX2_divideUp_1 (by decide) ?_
  refine lv_icmp_ge (tgt := 9) hx hb dX2_divideUp_2 (by decide) (fun c_1 => ?_) (fun c_1 => ?_)
  · rw [if_pos c_1] at hk
    refine lv_iload_n hx hb dX2_divideUp_9 rfl (lv_at hl 0 rfl) ?_
    refine lv_iload_n hx hb dX2_divideUp_10 rfl (lv_at hl 1 rfl) ?_
    refine lv_iadd hx hb dX2_divideUp_11 ?_
    refine lv_iconst (v := 1) hx hb dX2_divideUp_12 (by decide) ?_
    refine lv_isub hx hb dX2_divideUp_13 ?_
    refine lv_iload_n hx hb dX2_divideUp_14 rfl (lv_at hl 1 rfl) ?_
    obtain ⟨o_2, hk⟩ := hk
    refine lv_idiv hx hb dX2_divideUp_15 o_2 ?_
    exact fi 16 _ (((x0 + x1) - 1) / x1) .int rfl rfl dX2_divideUp_16 (by rw [f_X2_divideUp, if_pos c_1])
  · rw [if_neg c_1] at hk
    refine lv_iconst (v := 0) hx hb dX2_divideUp_5 (by decide) ?_
    refine lv_goto (tgt := 16) hx hb dX2_divideUp_6 (by decide) ?_
    exact fi 16 _ 0 .int rfl rfl dX2_divideUp_16 (by rw [f_X2_divideUp, if_neg c_1])

noncomputable def f_X2_zoneIn (x0 : Int32) (x1 : Int32) : Int32 := ((x0 >>> ((2 * x1) &&& 31)) &&& 3)
theorem hd_X2_zoneIn : yX2_zoneIn.cls ≠ "java/lang/invoke/MethodHandle" ∧ yX2_zoneIn.cls ≠ "java/lang/invoke/VarHandle" ∧ (parseMethodDescriptor yX2_zoneIn.desc).map (fun d => d.parameters.length) = some 2 := by decide +kernel
set_option maxHeartbeats 4000000 in
set_option maxRecDepth 100000 in
theorem c_X2_zoneIn (l : Launch) (G : BGT) (x0 : Int32) (x1 : Int32) : RO l yX2_zoneIn wsX2_zoneIn 0 G [] [.int x0, .int x1] (some (.int (f_X2_zoneIn x0 x1))) := by
  refine RO.ofW (cc := cX2_zoneIn) (maxL := 2) (ret := (some .int)) (C := RX2) (by decide) rfl rfl (Nat.le_of_ble_eq_true rfl) ?_
  intro p e s m args below meth c Q ls hx hb hml hts hown hP hB hl fi fl fv
  have hS : va_S (fun _ => False) s.heap s.heap [] := va_S.rf
  have hl : lv_has ls 2 [(0, .int x0), (1, .int x1)] := hl
  refine lv_iload_n hx hb dX2_zoneIn_0 rfl (lv_at hl 0 rfl) ?_
  refine lv_iconst (v := 2) hx hb dX2_zoneIn_1 (by decide) ?_
  refine lv_iload_n hx hb dX2_zoneIn_2 rfl (lv_at hl 1 rfl) ?_
  refine lv_imul hx hb dX2_zoneIn_3 ?_
  refine lv_ishr hx hb dX2_zoneIn_4 ?_
  refine lv_iconst (v := 3) hx hb dX2_zoneIn_5 (by decide) ?_
  refine lv_iand hx hb dX2_zoneIn_6 ?_
  exact fi 7 _ ((x0 >>> ((2 * x1) &&& 31)) &&& 3) .int rfl rfl dX2_zoneIn_7 (by rw [f_X2_zoneIn])

noncomputable def f_X2_chargeOfOffer (x0 : Int32) : Int32 := (x0 / 3)
theorem hd_X2_chargeOfOffer : yX2_chargeOfOffer.cls ≠ "java/lang/invoke/MethodHandle" ∧ yX2_chargeOfOffer.cls ≠ "java/lang/invoke/VarHandle" ∧ (parseMethodDescriptor yX2_chargeOfOffer.desc).map (fun d => d.parameters.length) = some 1 := by decide +kernel
set_option maxHeartbeats 4000000 in
set_option maxRecDepth 100000 in
theorem c_X2_chargeOfOffer (l : Launch) (G : BGT) (x0 : Int32) : RO l yX2_chargeOfOffer wsX2_chargeOfOffer 0 G [] [.int x0] (some (.int (f_X2_chargeOfOffer x0))) := by
  refine RO.ofW (cc := cX2_chargeOfOffer) (maxL := 1) (ret := (some .int)) (C := RX2) (by decide) rfl rfl (Nat.le_of_ble_eq_true rfl) ?_
  intro p e s m args below meth c Q ls hx hb hml hts hown hP hB hl fi fl fv
  have hS : va_S (fun _ => False) s.heap s.heap [] := va_S.rf
  have hl : lv_has ls 1 [(0, .int x0)] := hl
  refine lv_iload_n hx hb dX2_chargeOfOffer_0 rfl (lv_at hl 0 rfl) ?_
  refine lv_iconst (v := 3) hx hb dX2_chargeOfOffer_1 (by decide) ?_
  refine lv_idiv hx hb dX2_chargeOfOffer_2 (by decide) ?_
  exact fi 3 _ (x0 / 3) .int rfl rfl dX2_chargeOfOffer_3 (by rw [f_X2_chargeOfOffer])

noncomputable def f_X2_carrierOfOffer (x0 : Int32) : Int32 := (jrem x0 3)
theorem hd_X2_carrierOfOffer : yX2_carrierOfOffer.cls ≠ "java/lang/invoke/MethodHandle" ∧ yX2_carrierOfOffer.cls ≠ "java/lang/invoke/VarHandle" ∧ (parseMethodDescriptor yX2_carrierOfOffer.desc).map (fun d => d.parameters.length) = some 1 := by decide +kernel
set_option maxHeartbeats 4000000 in
set_option maxRecDepth 100000 in
theorem c_X2_carrierOfOffer (l : Launch) (G : BGT) (x0 : Int32) : RO l yX2_carrierOfOffer wsX2_carrierOfOffer 0 G [] [.int x0] (some (.int (f_X2_carrierOfOffer x0))) := by
  refine RO.ofW (cc := cX2_carrierOfOffer) (maxL := 1) (ret := (some .int)) (C := RX2) (by decide) rfl rfl (Nat.le_of_ble_eq_true rfl) ?_
  intro p e s m args below meth c Q ls hx hb hml hts hown hP hB hl fi fl fv
  have hS : va_S (fun _ => False) s.heap s.heap [] := va_S.rf
  have hl : lv_has ls 1 [(0, .int x0)] := hl
  refine lv_iload_n hx hb dX2_carrierOfOffer_0 rfl (lv_at hl 0 rfl) ?_
  refine lv_iconst (v := 3) hx hb dX2_carrierOfOffer_1 (by decide) ?_
  refine lv_irem hx hb dX2_carrierOfOffer_2 (by decide) ?_
  refine W.eq (g2 := F0 m 3 ls [.int (jrem x0 3)]) rfl ?_
  exact fi 3 _ (jrem x0 3) .int rfl rfl dX2_carrierOfOffer_3 (by rw [f_X2_carrierOfOffer])

noncomputable def f_X2_kilosOf (x1 : Int32) (rK : Nat → Int32) : Int32 := (f_X6_at x1 rK 256)
theorem hd_X2_kilosOf : yX2_kilosOf.cls ≠ "java/lang/invoke/MethodHandle" ∧ yX2_kilosOf.cls ≠ "java/lang/invoke/VarHandle" ∧ (parseMethodDescriptor yX2_kilosOf.desc).map (fun d => d.parameters.length) = some 1 := by decide +kernel
set_option maxHeartbeats 4000000 in
set_option maxRecDepth 100000 in
theorem c_X2_kilosOf (l : Launch) (G : BGT) (q_r q_b q_rK q_rL q_rG : Nat) (rK : Nat → Int32) (x1 : Int32) : RO l yX2_kilosOf wsX2_kilosOf 1 G [oX2 q_r q_b q_rK q_rL q_rG, aI G q_rK 256 rK] [.ref q_r, .int x1] (some (.int (f_X2_kilosOf x1 rK))) := by
  refine RO.ofW (cc := cX2_kilosOf) (maxL := 2) (ret := (some .int)) (C := RX2) (by decide) rfl rfl (Nat.le_of_ble_eq_true rfl) ?_
  intro p e s m args below meth c Q ls hx hb hml hts hown hP hB hl fi fl fv
  have hS : va_S (fun _ => False) s.heap s.heap [] := va_S.rf
  have hl : lv_has ls 2 [(0, .ref q_r), (1, .int x1)] := hl
  have t_0 := hts (.fieldLink RX2 9 "ParcelSplit$Prices" "kilos" "[I") (by decide +kernel)
  have m_0 : Cond.initialized RX6 ∈ wsX2_kilosOf := by decide +kernel
  have m_1 : Cond.static yX6_at ∈ wsX2_kilosOf := by decide +kernel
  have i_X2 : ∀ w ∈ wsX20, w ∈ wsX2_kilosOf := by decide +kernel
  refine lv_aload_n hx hb dX2_kilosOf_0 rfl (lv_at hl 0 rfl) ?_
  refine va_get (D := gD G) (ci := 2) (v := .ref q_rK) (C := RX2) (T := TX2) (N := 4) hx hb hts i_X2 hown hB.1 hP 0 rfl rfl 1 (by decide) t_0 (fun _ h9 => h9) rfl dX2_kilosOf_1 ?_
  refine lv_iload_n hx hb dX2_kilosOf_4 rfl (lv_at hl 1 rfl) ?_
  refine ro_SN (As := [.ref q_rK, .int x1]) (rest := []) (c_X6_at l G 256 (by decide) q_rK rK x1) [1] rfl gX2_kilosOf_X6_at_n37 ⟨_, rfl⟩ hd_X6_at 6 rfl m_0 m_1 dX2_kilosOf_5 rfl rfl (Nat.le_of_ble_eq_true rfl) ⟨Nat.le_of_ble_eq_true rfl, Nat.le_of_ble_eq_true rfl⟩ ⟨Nat.le_refl 0, Nat.le_refl 0⟩ hx hb hml hown hts hB hS hP hl.1 ?_
  refine W.eq (g2 := F0 m 8 ls [.int (f_X6_at x1 rK 256)]) rfl ?_
  exact fi 8 _ (f_X6_at x1 rK 256) .int rfl rfl dX2_kilosOf_8 (by rw [f_X2_kilosOf])

noncomputable def f_X2_findLongGoods_L4 (x1 : Int32) (bG : Nat → Int32) (bM : Int32) : Nat → Int32 → Int32 → Int32 × Int32
  | 0, v2, v3 => (v2, v3)
  | n + 1, v2, v3 => (if (f_X0_goodCount bM) ≤ v3 then (v2, v3) else (if (f_X0_goodNumber v3 2 bG) ≤ x1 then f_X2_findLongGoods_L4 x1 bG bM n v2 (v3 + 1) else f_X2_findLongGoods_L4 x1 bG bM n (v2 ||| (1 <<< (v3 &&& 31))) (v3 + 1)))
noncomputable def k_X2_findLongGoods_L4 (x1 : Int32) (bG : Nat → Int32) (bM : Int32) : Nat → Int32 → Int32 → Prop
  | 0, _, _ => False
  | n + 1, v2, v3 => (if (f_X0_goodCount bM) ≤ v3 then True else (if (f_X0_goodNumber v3 2 bG) ≤ x1 then k_X2_findLongGoods_L4 x1 bG bM n v2 (v3 + 1) else k_X2_findLongGoods_L4 x1 bG bM n (v2 ||| (1 <<< (v3 &&& 31))) (v3 + 1)))
noncomputable def f_X2_findLongGoods (x1 : Int32) (bG : Nat → Int32) (bM : Int32) : Int32 := ((f_X2_findLongGoods_L4 x1 bG bM FU 0 0).1)
noncomputable def k_X2_findLongGoods (x1 : Int32) (bG : Nat → Int32) (bM : Int32) : Prop := (k_X2_findLongGoods_L4 x1 bG bM FU 0 0 ∧ True)
theorem hd_X2_findLongGoods : yX2_findLongGoods.cls ≠ "java/lang/invoke/MethodHandle" ∧ yX2_findLongGoods.cls ≠ "java/lang/invoke/VarHandle" ∧ (parseMethodDescriptor yX2_findLongGoods.desc).map (fun d => d.parameters.length) = some 1 := by decide +kernel
set_option maxHeartbeats 4000000 in
set_option maxRecDepth 100000 in
theorem c_X2_findLongGoods (l : Launch) (G : BGT) (q_b q_bA q_bB q_bZ q_bG q_bP q_bQ q_r q_rK q_rL q_rG : Nat) (bC : Int32) (bM : Int32) (bL : Int32) (bD : Int32) (bG : Nat → Int32) (x1 : Int32) (hk : k_X2_findLongGoods x1 bG bM) : RO l yX2_findLongGoods wsX2_findLongGoods 2 G [oX0 q_b q_bA q_bB q_bZ q_bG q_bP q_bQ bC bM bL bD, aI G q_bG 24 bG, oX2 q_r q_b q_rK q_rL q_rG] [.ref q_r, .int x1] (some (.int (f_X2_findLongGoods x1 bG bM))) := by
  refine RO.ofW (cc := cX2_findLongGoods) (maxL := 4) (ret := (some .int)) (C := RX2) (by decide) rfl rfl (Nat.le_of_ble_eq_true rfl) ?_
  intro p e s m args below meth c Q ls hx hb hml hts hown hP hB hl fi fl fv
  have hS : va_S (fun _ => False) s.heap s.heap [] := va_S.rf
  have hl : lv_has ls 4 [(0, .ref q_r), (1, .int x1)] := hl
  have t_0 := hts (.fieldLink RX2 21 "ParcelSplit$Prices" "book" "LParcelSplit$Book;") (by decide +kernel)
  have i_X2 : ∀ w ∈ wsX20, w ∈ wsX2_findLongGoods := by decide +kernel
  rw [k_X2_findLongGoods] at hk
  refine lv_iconst (v := 0) hx hb dX2_findLongGoods_0 (by decide) ?_
  refine lv_istore_n (lv' := [(2, .int 0), (0, .ref q_r), (1, .int x1)]) hx hb dX2_findLongGoods_1 rfl hl (by decide) rfl (fun ls hl => ?_)
  refine lv_iconst (v := 0) hx hb dX2_findLongGoods_2 (by decide) ?_
  refine lv_istore_n (lv' := [(3, .int 0), (2, .int 0), (0, .ref q_r), (1, .int x1)]) hx hb dX2_findLongGoods_3 rfl hl (by decide) rfl (fun ls hl => ?_)
  have L4 : ∀ (n : Nat) (v2 : Int32) (v3 : Int32), k_X2_findLongGoods_L4 x1 bG bM n v2 v3 → ∀ (ls : Array Slot), lv_has ls 4 [(0, .ref q_r), (1, .int x1), (2, .int v2), (3, .int v3)] → (∀ (ls : Array Slot), lv_has ls 4 [(0, .ref q_r), (1, .int x1), (2, .int ((f_X2_findLongGoods_L4 x1 bG bM n v2 v3).1)), (3, .int ((f_X2_findLongGoods_L4 x1 bG bM n v2 v3).2))] → W p l e (rm 2) s m args below meth c s.heap [] 0 0 Q (F0 m 40 ls [])) → W p l e (rm 2) s m args below meth c s.heap [] 0 0 Q (F0 m 4 ls []) := by
    intro n
    induction n with
    | zero => intro v2 v3 hk; exact (hk : False).elim
    | succ n ih =>
      intro v2 v3 hk ls hl kk
      rw [k_X2_findLongGoods_L4] at hk
      refine lv_iload_n hx hb dX2_findLongGoods_4 rfl (lv_at hl 3 rfl) ?_
      refine lv_aload_n hx hb dX2_findLongGoods_5 rfl (lv_at hl 0 rfl) ?_
      refine va_get (D := gD G) (ci := 2) (v := .ref q_b) (C := RX2) (T := TX2) (N := 4) hx hb hts i_X2 hown hB.1 hP 2 rfl rfl 0 (by decide) t_0 (fun _ h9 => h9) rfl dX2_findLongGoods_6 ?_
      refine ro_V (ci := 0) (q0 := 0) (As := []) (rest := [.int v3]) (c_X0_goodCount l G q_b q_bA q_bB q_bZ q_bG q_bP q_bQ bC bM bL bD) [0] rfl rfl rfl rfl gX2_findLongGoods_X0_goodCount ⟨_, rfl⟩ hd_X0_goodCount rfl dX2_findLongGoods_9 rfl rfl (Nat.le_of_ble_eq_true rfl) ⟨Nat.le_of_ble_eq_true rfl, Nat.le_of_ble_eq_true rfl⟩ ⟨Nat.le_refl 0, Nat.le_refl 0⟩ hx hb hml hown hts hB hS hP hl.1 ?_
      refine W.eq (g2 := F0 m 12 ls [.int (f_X0_goodCount bM), .int v3]) rfl ?_
      refine lv_icmp_ge (tgt := 40) hx hb dX2_findLongGoods_12 (by decide) (fun c_1 => ?_) (fun c_1 => ?_)
      · rw [if_pos c_1] at hk
        have e9 : f_X2_findLongGoods_L4 x1 bG bM (n + 1) v2 v3 = (v2, v3) := by rw [f_X2_findLongGoods_L4, if_pos c_1]
        rw [e9] at kk
        exact kk ls (lv_sub hl [0, 1, 2, 3] rfl)
      · rw [if_neg c_1] at hk
        refine lv_aload_n hx hb dX2_findLongGoods_15 rfl (lv_at hl 0 rfl) ?_
        refine va_get (D := gD G) (ci := 2) (v := .ref q_b) (C := RX2) (T := TX2) (N := 4) hx hb hts i_X2 hown hB.1 hP 2 rfl rfl 0 (by decide) t_0 (fun _ h9 => h9) rfl dX2_findLongGoods_16 ?_
        refine lv_iload_n hx hb dX2_findLongGoods_19 rfl (lv_at hl 3 rfl) ?_
        refine lv_iconst (v := 2) hx hb dX2_findLongGoods_20 (by decide) ?_
        refine ro_V (ci := 0) (q0 := 0) (As := [.int v3, .int 2]) (rest := []) (c_X0_goodNumber l G q_b q_bA q_bB q_bZ q_bG q_bP q_bQ bC bM bL bD bG v3 2) [0, 1] rfl rfl rfl rfl gX2_findLongGoods_X0_goodNumber ⟨_, rfl⟩ hd_X0_goodNumber rfl dX2_findLongGoods_21 rfl rfl (Nat.le_of_ble_eq_true rfl) ⟨Nat.le_of_ble_eq_true rfl, Nat.le_of_ble_eq_true rfl⟩ ⟨Nat.le_refl 0, Nat.le_refl 0⟩ hx hb hml hown hts hB hS hP hl.1 ?_
        refine W.eq (g2 := F0 m 24 ls [.int (f_X0_goodNumber v3 2 bG)]) rfl ?_
        refine lv_iload_n hx hb dX2_findLongGoods_24 rfl (lv_at hl 1 rfl) ?_
        refine lv_icmp_le (tgt := 34) hx hb dX2_findLongGoods_25 (by decide) (fun c_2 => ?_) (fun c_2 => ?_)
        · rw [if_pos c_2] at hk
          refine lv_iinc (v := (v3 + 1)) (lv' := [(3, .int (v3 + 1)), (0, .ref q_r), (1, .int x1), (2, .int v2)]) hx hb dX2_findLongGoods_34 hl (k := 3) rfl (by rfl) (by decide) rfl (fun ls hl => ?_)
          refine lv_goto (tgt := 4) hx hb dX2_findLongGoods_37 (by decide) ?_
          have e9 : f_X2_findLongGoods_L4 x1 bG bM (n + 1) v2 v3 = f_X2_findLongGoods_L4 x1 bG bM n v2 (v3 + 1) := by rw [f_X2_findLongGoods_L4, if_neg c_1, if_pos c_2]
          rw [e9] at kk
          exact ih v2 (v3 + 1) hk ls (lv_sub hl [1, 2, 3, 0] rfl) kk
        · rw [if_neg c_2] at hk
          refine lv_iload_n hx hb dX2_findLongGoods_28 rfl (lv_at hl 2 rfl) ?_
          refine lv_iconst (v := 1) hx hb dX2_findLongGoods_29 (by decide) ?_
          refine lv_iload_n hx hb dX2_findLongGoods_30 rfl (lv_at hl 3 rfl) ?_
          refine lv_ishl hx hb dX2_findLongGoods_31 ?_
          refine lv_ior hx hb dX2_findLongGoods_32 ?_
          refine lv_istore_n (lv' := [(2, .int (v2 ||| (1 <<< (v3 &&& 31)))), (0, .ref q_r), (1, .int x1), (3, .int v3)]) hx hb dX2_findLongGoods_33 rfl hl (by decide) rfl (fun ls hl => ?_)
          refine lv_iinc (v := (v3 + 1)) (lv' := [(3, .int (v3 + 1)), (2, .int (v2 ||| (1 <<< (v3 &&& 31)))), (0, .ref q_r), (1, .int x1)]) hx hb dX2_findLongGoods_34 hl (k := 3) rfl (by rfl) (by decide) rfl (fun ls hl => ?_)
          refine lv_goto (tgt := 4) hx hb dX2_findLongGoods_37 (by decide) ?_
          have e9 : f_X2_findLongGoods_L4 x1 bG bM (n + 1) v2 v3 = f_X2_findLongGoods_L4 x1 bG bM n (v2 ||| (1 <<< (v3 &&& 31))) (v3 + 1) := by rw [f_X2_findLongGoods_L4, if_neg c_1, if_neg c_2]
          rw [e9] at kk
          exact ih (v2 ||| (1 <<< (v3 &&& 31))) (v3 + 1) hk ls (lv_sub hl [2, 3, 1, 0] rfl) kk
  obtain ⟨hkL, hk⟩ := hk
  refine L4 FU 0 0 hkL ls (lv_sub hl [2, 3, 1, 0] rfl) (fun ls hl => ?_)
  refine lv_iload_n hx hb dX2_findLongGoods_40 rfl (lv_at hl 2 rfl) ?_
  exact fi 41 _ ((f_X2_findLongGoods_L4 x1 bG bM FU 0 0).1) .int rfl rfl dX2_findLongGoods_41 (by rw [f_X2_findLongGoods])

noncomputable def f_X2_learn_L2 (bG : Nat → Int32) (bM : Int32) : Nat → Int32 → (Nat → Int32) → (Nat → Int32) → Int32 × (Nat → Int32) × (Nat → Int32)
  | 0, v1, w_rK, w_rL => (v1, w_rK, w_rL)
  | n + 1, v1, w_rK, w_rL => (if (f_X0_fullSet bM) < v1 then (v1, w_rK, w_rL) else f_X2_learn_L2 bG bM n (v1 + 1) (f_X6_store v1 ((f_X6_at (v1 &&& (v1 - 1)) w_rK 256) + (f_X0_goodNumber (f_J6_numberOfTrailingZeros_0f7a4 v1) 0 bG)) w_rK 256) (f_X6_store v1 ((f_X6_at (v1 &&& (v1 - 1)) w_rL 256) + (f_X0_goodNumber (f_J6_numberOfTrailingZeros_0f7a4 v1) 1 bG)) w_rL 256))
noncomputable def k_X2_learn_L2 (bG : Nat → Int32) (bM : Int32) : Nat → Int32 → (Nat → Int32) → (Nat → Int32) → Prop
  | 0, _, _, _ => False
  | n + 1, v1, w_rK, w_rL => (if (f_X0_fullSet bM) < v1 then True else k_X2_learn_L2 bG bM n (v1 + 1) (f_X6_store v1 ((f_X6_at (v1 &&& (v1 - 1)) w_rK 256) + (f_X0_goodNumber (f_J6_numberOfTrailingZeros_0f7a4 v1) 0 bG)) w_rK 256) (f_X6_store v1 ((f_X6_at (v1 &&& (v1 - 1)) w_rL 256) + (f_X0_goodNumber (f_J6_numberOfTrailingZeros_0f7a4 v1) 1 bG)) w_rL 256))
noncomputable def f_X2_learn_L84 (bA : Nat → Int32) (bG : Nat → Int32) (bC : Int32) (bM : Int32) : Nat → Int32 → (Nat → Int32) → (Nat → Int32) → (Nat → Int32) → Int32 × (Nat → Int32) × (Nat → Int32) × (Nat → Int32)
  | 0, v1, w_rK, w_rL, w_rG => (v1, w_rK, w_rL, w_rG)
  | n + 1, v1, w_rK, w_rL, w_rG => (if (f_X0_carrierCount bC) ≤ v1 then (v1, w_rK, w_rL, w_rG) else f_X2_learn_L84 bA bG bC bM n (v1 + 1) w_rK w_rL (f_X6_store v1 (f_X2_findLongGoods (f_X0_carrierNumber v1 4 bA) bG bM) w_rG 3))
noncomputable def k_X2_learn_L84 (bA : Nat → Int32) (bG : Nat → Int32) (bC : Int32) (bM : Int32) : Nat → Int32 → (Nat → Int32) → (Nat → Int32) → (Nat → Int32) → Prop
  | 0, _, _, _, _ => False
  | n + 1, v1, w_rK, w_rL, w_rG => (if (f_X0_carrierCount bC) ≤ v1 then True else (k_X2_findLongGoods (f_X0_carrierNumber v1 4 bA) bG bM ∧ k_X2_learn_L84 bA bG bC bM n (v1 + 1) w_rK w_rL (f_X6_store v1 (f_X2_findLongGoods (f_X0_carrierNumber v1 4 bA) bG bM) w_rG 3)))
noncomputable def f_X2_learn (rK : Nat → Int32) (rL : Nat → Int32) (rG : Nat → Int32) (bA : Nat → Int32) (bG : Nat → Int32) (bC : Int32) (bM : Int32) : (Nat → Int32) × (Nat → Int32) × (Nat → Int32) := (((f_X2_learn_L84 bA bG bC bM FU 0 ((f_X2_learn_L2 bG bM FU 1 rK rL).2.1) ((f_X2_learn_L2 bG bM FU 1 rK rL).2.2) rG).2.1), ((f_X2_learn_L84 bA bG bC bM FU 0 ((f_X2_learn_L2 bG bM FU 1 rK rL).2.1) ((f_X2_learn_L2 bG bM FU 1 rK rL).2.2) rG).2.2.1), ((f_X2_learn_L84 bA bG bC bM FU 0 ((f_X2_learn_L2 bG bM FU 1 rK rL).2.1) ((f_X2_learn_L2 bG bM FU 1 rK rL).2.2) rG).2.2.2))
noncomputable def k_X2_learn (rK : Nat → Int32) (rL : Nat → Int32) (rG : Nat → Int32) (bA : Nat → Int32) (bG : Nat → Int32) (bC : Int32) (bM : Int32) : Prop := (k_X2_learn_L2 bG bM FU 1 rK rL ∧ (k_X2_learn_L84 bA bG bC bM FU 0 ((f_X2_learn_L2 bG bM FU 1 rK rL).2.1) ((f_X2_learn_L2 bG bM FU 1 rK rL).2.2) rG ∧ True))
theorem hd_X2_learn : yX2_learn.cls ≠ "java/lang/invoke/MethodHandle" ∧ yX2_learn.cls ≠ "java/lang/invoke/VarHandle" ∧ (parseMethodDescriptor yX2_learn.desc).map (fun d => d.parameters.length) = some 0 := by decide +kernel
set_option maxHeartbeats 4000000 in
set_option maxRecDepth 100000 in
theorem c_X2_learn (l : Launch) (G : BGT) (q_b q_bA q_bB q_bZ q_bG q_bP q_bQ q_r q_rK q_rL q_rG : Nat) (bC : Int32) (bM : Int32) (bL : Int32) (bD : Int32) (bA : Nat → Int32) (bG : Nat → Int32) (rK : Nat → Int32) (rL : Nat → Int32) (rG : Nat → Int32) (hk : k_X2_learn rK rL rG bA bG bC bM) : WR l yX2_learn wsX2_learn 3 G [oX0 q_b q_bA q_bB q_bZ q_bG q_bP q_bQ bC bM bL bD, aI G q_bA 18 bA, aI G q_bG 24 bG, oX2 q_r q_b q_rK q_rL q_rG, aI G q_rK 256 rK, aI G q_rL 256 rL, aI G q_rG 3 rG] [oX0 q_b q_bA q_bB q_bZ q_bG q_bP q_bQ bC bM bL bD, aI G q_bA 18 bA, aI G q_bG 24 bG, oX2 q_r q_b q_rK q_rL q_rG, aI G q_rK 256 ((f_X2_learn rK rL rG bA bG bC bM).1), aI G q_rL 256 ((f_X2_learn rK rL rG bA bG bC bM).2.1), aI G q_rG 3 ((f_X2_learn rK rL rG bA bG bC bM).2.2)] [.ref q_r] none := by
  refine WR.ofW (cc := cX2_learn) (maxL := 4) (ret := none) (C := RX2) (by decide) rfl rfl (Nat.le_of_ble_eq_true rfl) ?_
  intro p e s m args below meth c Q ls A hx hb hml hts hown hP hD hS hA hB hl fi fv
  have hl : lv_has ls 4 [(0, .ref q_r)] := hl
  have t_0 := hts (.fieldLink RX2 21 "ParcelSplit$Prices" "book" "LParcelSplit$Book;") (by decide +kernel)
  have t_1 := hts (.fieldLink RX2 9 "ParcelSplit$Prices" "kilos" "[I") (by decide +kernel)
  have t_2 := hts (.fieldLink RX2 15 "ParcelSplit$Prices" "litres" "[I") (by decide +kernel)
  have t_3 := hts (.fieldLink RX2 18 "ParcelSplit$Prices" "longGoods" "[I") (by decide +kernel)
  have m_0 : Cond.initialized RX6 ∈ wsX2_learn := by decide +kernel
  have m_1 : Cond.static yX6_at ∈ wsX2_learn := by decide +kernel
  have m_2 : Cond.static yX6_store ∈ wsX2_learn := by decide +kernel
  have i_X2 : ∀ w ∈ wsX20, w ∈ wsX2_learn := by decide +kernel
  rw [k_X2_learn] at hk
  refine lv_iconst (v := 1) hx hb dX2_learn_0 (by decide) ?_
  refine lv_istore_n (lv' := [(1, .int 1), (0, .ref q_r)]) hx hb dX2_learn_1 rfl hl (by decide) rfl (fun ls hl => ?_)
  have L2 : ∀ (n : Nat) (v1 : Int32) (w_rK : Nat → Int32) (w_rL : Nat → Int32), k_X2_learn_L2 bG bM n v1 w_rK w_rL → ∀ (H : Heap) (locs : List Loc), va_P (gD G) vwCl [oX0 q_b q_bA q_bB q_bZ q_bG q_bP q_bQ bC bM bL bD, aI G q_bA 18 bA, aI G q_bG 24 bG, oX2 q_r q_b q_rK q_rL q_rG, aI G q_rK 256 w_rK, aI G q_rL 256 w_rL, aI G q_rG 3 rG] H → va_D A [oX0 q_b q_bA q_bB q_bZ q_bG q_bP q_bQ bC bM bL bD, aI G q_bA 18 bA, aI G q_bG 24 bG, oX2 q_r q_b q_rK q_rL q_rG, aI G q_rK 256 w_rK, aI G q_rL 256 w_rL, aI G q_rG 3 rG] → va_S A s.heap H locs → ∀ (ls : Array Slot), lv_has ls 4 [(0, .ref q_r), (1, .int v1)] → (∀ (H : Heap) (locs : List Loc), va_P (gD G) vwCl [oX0 q_b q_bA q_bB q_bZ q_bG q_bP q_bQ bC bM bL bD, aI G q_bA 18 bA, aI G q_bG 24 bG, oX2 q_r q_b q_rK q_rL q_rG, aI G q_rK 256 ((f_X2_learn_L2 bG bM n v1 w_rK w_rL).2.1), aI G q_rL 256 ((f_X2_learn_L2 bG bM n v1 w_rK w_rL).2.2), aI G q_rG 3 rG] H → va_D A [oX0 q_b q_bA q_bB q_bZ q_bG q_bP q_bQ bC bM bL bD, aI G q_bA 18 bA, aI G q_bG 24 bG, oX2 q_r q_b q_rK q_rL q_rG, aI G q_rK 256 ((f_X2_learn_L2 bG bM n v1 w_rK w_rL).2.1), aI G q_rL 256 ((f_X2_learn_L2 bG bM n v1 w_rK w_rL).2.2), aI G q_rG 3 rG] → va_S A s.heap H locs → ∀ (ls : Array Slot), lv_has ls 4 [(0, .ref q_r), (1, .int ((f_X2_learn_L2 bG bM n v1 w_rK w_rL).1))] → W p l e (rm 3) s m args below meth c H locs 0 0 Q (F0 m 82 ls [])) → W p l e (rm 3) s m args below meth c H locs 0 0 Q (F0 m 2 ls []) := by
    intro n
    induction n with
    | zero => intro v1 w_rK w_rL hk; exact (hk : False).elim
    | succ n ih =>
      intro v1 w_rK w_rL hk H locs hP hD hS ls hl kk
      rw [k_X2_learn_L2] at hk
      refine lv_iload_n hx hb dX2_learn_2 rfl (lv_at hl 1 rfl) ?_
      refine lv_aload_n hx hb dX2_learn_3 rfl (lv_at hl 0 rfl) ?_
      refine va_get (D := gD G) (ci := 2) (v := .ref q_b) (C := RX2) (T := TX2) (N := 4) hx hb hts i_X2 hown hB.1 hP 3 rfl rfl 0 (by decide) t_0 (fun _ h9 => h9) rfl dX2_learn_4 ?_
      refine ro_V (ci := 0) (q0 := 0) (As := []) (rest := [.int v1]) (c_X0_fullSet l G q_b q_bA q_bB q_bZ q_bG q_bP q_bQ bC bM bL bD) [0] rfl rfl rfl rfl gX2_learn_X0_fullSet ⟨_, rfl⟩ hd_X0_fullSet rfl dX2_learn_7 rfl rfl (Nat.le_of_ble_eq_true rfl) ⟨Nat.le_of_ble_eq_true rfl, Nat.le_of_ble_eq_true rfl⟩ ⟨Nat.le_refl 0, Nat.le_refl 0⟩ hx hb hml hown hts hB hS hP hl.1 ?_
      refine W.eq (g2 := F0 m 10 ls [.int (f_X0_fullSet bM), .int v1]) rfl ?_
      refine lv_icmp_gt (tgt := 82) hx hb dX2_learn_10 (by decide) (fun c_1 => ?_) (fun c_1 => ?_)
      · rw [if_pos c_1] at hk
        have e9 : f_X2_learn_L2 bG bM (n + 1) v1 w_rK w_rL = (v1, w_rK, w_rL) := by rw [f_X2_learn_L2, if_pos c_1]
        rw [e9] at kk
        exact kk _ _ hP hD hS ls (lv_sub hl [0, 1] rfl)
      · rw [if_neg c_1] at hk
        refine lv_iload_n hx hb dX2_learn_13 rfl (lv_at hl 1 rfl) ?_
        refine lv_iload_n hx hb dX2_learn_14 rfl (lv_at hl 1 rfl) ?_
        refine lv_iconst (v := 1) hx hb dX2_learn_15 (by decide) ?_
        refine lv_isub hx hb dX2_learn_16 ?_
        refine lv_iand hx hb dX2_learn_17 ?_
        refine lv_istore_n (lv' := [(2, .int (v1 &&& (v1 - 1))), (0, .ref q_r), (1, .int v1)]) hx hb dX2_learn_18 rfl hl (by decide) rfl (fun ls hl => ?_)
        refine lv_iload_n hx hb dX2_learn_19 rfl (lv_at hl 2 rfl) ?_
        refine ro_S (As := [.int v1]) (rest := []) (c_J6_numberOfTrailingZeros_0f7a4 l G v1) [] rfl gX2_learn_J6_numberOfTrailingZeros_0f7a4 ⟨_, rfl⟩ hd_J6_numberOfTrailingZeros_0f7a4 dX2_learn_20 rfl rfl (Nat.le_of_ble_eq_true rfl) ⟨Nat.le_of_ble_eq_true rfl, Nat.le_of_ble_eq_true rfl⟩ ⟨Nat.le_refl 0, Nat.le_refl 0⟩ hx hb hml hown hts hB hS hP hl.1 ?_
        refine W.eq (g2 := F0 m 23 ls [.int (f_J6_numberOfTrailingZeros_0f7a4 v1)]) rfl ?_
        refine lv_istore_n (lv' := [(3, .int (f_J6_numberOfTrailingZeros_0f7a4 v1)), (2, .int (v1 &&& (v1 - 1))), (0, .ref q_r), (1, .int v1)]) hx hb dX2_learn_23 rfl hl (by decide) rfl (fun ls hl => ?_)
        refine lv_aload_n hx hb dX2_learn_24 rfl (lv_at hl 2 rfl) ?_
        refine va_get (D := gD G) (ci := 2) (v := .ref q_rK) (C := RX2) (T := TX2) (N := 4) hx hb hts i_X2 hown hB.1 hP 3 rfl rfl 1 (by decide) t_1 (fun _ h9 => h9) rfl dX2_learn_25 ?_
        refine lv_iload_n hx hb dX2_learn_28 rfl (lv_at hl 3 rfl) ?_
        refine lv_aload_n hx hb dX2_learn_29 rfl (lv_at hl 2 rfl) ?_
        refine va_get (D := gD G) (ci := 2) (v := .ref q_rK) (C := RX2) (T := TX2) (N := 4) hx hb hts i_X2 hown hB.1 hP 3 rfl rfl 1 (by decide) t_1 (fun _ h9 => h9) rfl dX2_learn_30 ?_
        refine lv_iload_n hx hb dX2_learn_33 rfl (lv_at hl 1 rfl) ?_
        refine ro_SN (As := [.ref q_rK, .int (v1 &&& (v1 - 1))]) (rest := [.int v1, .ref q_rK]) (c_X6_at l G 256 (by decide) q_rK w_rK (v1 &&& (v1 - 1))) [4] rfl gX2_learn_X6_at_n37 ⟨_, rfl⟩ hd_X6_at 6 rfl m_0 m_1 dX2_learn_34 rfl rfl (Nat.le_of_ble_eq_true rfl) ⟨Nat.le_of_ble_eq_true rfl, Nat.le_of_ble_eq_true rfl⟩ ⟨Nat.le_refl 0, Nat.le_refl 0⟩ hx hb hml hown hts hB hS hP hl.1 ?_
        refine W.eq (g2 := F0 m 37 ls [.int (f_X6_at (v1 &&& (v1 - 1)) w_rK 256), .int v1, .ref q_rK]) rfl ?_
        refine lv_aload_n hx hb dX2_learn_37 rfl (lv_at hl 2 rfl) ?_
        refine va_get (D := gD G) (ci := 2) (v := .ref q_b) (C := RX2) (T := TX2) (N := 4) hx hb hts i_X2 hown hB.1 hP 3 rfl rfl 0 (by decide) t_0 (fun _ h9 => h9) rfl dX2_learn_38 ?_
        refine lv_iload_n hx hb dX2_learn_41 rfl (lv_at hl 0 rfl) ?_
        refine lv_iconst (v := 0) hx hb dX2_learn_42 (by decide) ?_
        refine ro_V (ci := 0) (q0 := 0) (As := [.int (f_J6_numberOfTrailingZeros_0f7a4 v1), .int 0]) (rest := [.int (f_X6_at (v1 &&& (v1 - 1)) w_rK 256), .int v1, .ref q_rK]) (c_X0_goodNumber l G q_b q_bA q_bB q_bZ q_bG q_bP q_bQ bC bM bL bD bG (f_J6_numberOfTrailingZeros_0f7a4 v1) 0) [0, 2] rfl rfl rfl rfl gX2_learn_X0_goodNumber ⟨_, rfl⟩ hd_X0_goodNumber rfl dX2_learn_43 rfl rfl (Nat.le_of_ble_eq_true rfl) ⟨Nat.le_of_ble_eq_true rfl, Nat.le_of_ble_eq_true rfl⟩ ⟨Nat.le_refl 0, Nat.le_refl 0⟩ hx hb hml hown hts hB hS hP hl.1 ?_
        refine W.eq (g2 := F0 m 46 ls [.int (f_X0_goodNumber (f_J6_numberOfTrailingZeros_0f7a4 v1) 0 bG), .int (f_X6_at (v1 &&& (v1 - 1)) w_rK 256), .int v1, .ref q_rK]) rfl ?_
        refine lv_iadd hx hb dX2_learn_46 ?_
        refine wr_SN (As := [.ref q_rK, .int v1, .int ((f_X6_at (v1 &&& (v1 - 1)) w_rK 256) + (f_X0_goodNumber (f_J6_numberOfTrailingZeros_0f7a4 v1) 0 bG))]) (rest := []) (wr := [oX0 q_b q_bA q_bB q_bZ q_bG q_bP q_bQ bC bM bL bD, aI G q_bA 18 bA, aI G q_bG 24 bG, oX2 q_r q_b q_rK q_rL q_rG, aI G q_rL 256 w_rL, aI G q_rG 3 rG]) (wf := [oX0 q_b q_bA q_bB q_bZ q_bG q_bP q_bQ bC bM bL bD, aI G q_bA 18 bA, aI G q_bG 24 bG, oX2 q_r q_b q_rK q_rL q_rG, aI G q_rK 256 (f_X6_store v1 ((f_X6_at (v1 &&& (v1 - 1)) w_rK 256) + (f_X0_goodNumber (f_J6_numberOfTrailingZeros_0f7a4 v1) 0 bG)) w_rK 256), aI G q_rL 256 w_rL, aI G q_rG 3 rG]) (c_X6_store l G 256 (by decide) q_rK w_rK v1 ((f_X6_at (v1 &&& (v1 - 1)) w_rK 256) + (f_X0_goodNumber (f_J6_numberOfTrailingZeros_0f7a4 v1) 0 bG))) [4] [0, 1, 2, 3, 5, 6] [0, 1, 2, 3, 6, 4, 5] rfl rfl rfl (by decide) gX2_learn_X6_store_n45 ⟨_, rfl⟩ hd_X6_store 7 rfl m_0 m_2 dX2_learn_47 rfl rfl (Nat.le_of_ble_eq_true rfl) ⟨Nat.le_of_ble_eq_true rfl, Nat.le_of_ble_eq_true rfl⟩ ⟨Nat.le_refl 0, Nat.le_refl 0⟩ hx hb hml hown hts hB hD hS hA hP hl.1 (fun H locs hP hD hS => ?_)
        refine W.eq (g2 := F0 m 50 ls []) rfl ?_
        refine lv_aload_n hx hb dX2_learn_50 rfl (lv_at hl 2 rfl) ?_
        refine va_get (D := gD G) (ci := 2) (v := .ref q_rL) (C := RX2) (T := TX2) (N := 4) hx hb hts i_X2 hown hB.1 hP 3 rfl rfl 2 (by decide) t_2 (fun _ h9 => h9) rfl dX2_learn_51 ?_
        refine lv_iload_n hx hb dX2_learn_54 rfl (lv_at hl 3 rfl) ?_
        refine lv_aload_n hx hb dX2_learn_55 rfl (lv_at hl 2 rfl) ?_
        refine va_get (D := gD G) (ci := 2) (v := .ref q_rL) (C := RX2) (T := TX2) (N := 4) hx hb hts i_X2 hown hB.1 hP 3 rfl rfl 2 (by decide) t_2 (fun _ h9 => h9) rfl dX2_learn_56 ?_
        refine lv_iload_n hx hb dX2_learn_59 rfl (lv_at hl 1 rfl) ?_
        refine ro_SN (As := [.ref q_rL, .int (v1 &&& (v1 - 1))]) (rest := [.int v1, .ref q_rL]) (c_X6_at l G 256 (by decide) q_rL w_rL (v1 &&& (v1 - 1))) [5] rfl gX2_learn_X6_at_n37 ⟨_, rfl⟩ hd_X6_at 6 rfl m_0 m_1 dX2_learn_60 rfl rfl (Nat.le_of_ble_eq_true rfl) ⟨Nat.le_of_ble_eq_true rfl, Nat.le_of_ble_eq_true rfl⟩ ⟨Nat.le_refl 0, Nat.le_refl 0⟩ hx hb hml hown hts hB hS hP hl.1 ?_
        refine W.eq (g2 := F0 m 63 ls [.int (f_X6_at (v1 &&& (v1 - 1)) w_rL 256), .int v1, .ref q_rL]) rfl ?_
        refine lv_aload_n hx hb dX2_learn_63 rfl (lv_at hl 2 rfl) ?_
        refine va_get (D := gD G) (ci := 2) (v := .ref q_b) (C := RX2) (T := TX2) (N := 4) hx hb hts i_X2 hown hB.1 hP 3 rfl rfl 0 (by decide) t_0 (fun _ h9 => h9) rfl dX2_learn_64 ?_
        refine lv_iload_n hx hb dX2_learn_67 rfl (lv_at hl 0 rfl) ?_
        refine lv_iconst (v := 1) hx hb dX2_learn_68 (by decide) ?_
        refine ro_V (ci := 0) (q0 := 0) (As := [.int (f_J6_numberOfTrailingZeros_0f7a4 v1), .int 1]) (rest := [.int (f_X6_at (v1 &&& (v1 - 1)) w_rL 256), .int v1, .ref q_rL]) (c_X0_goodNumber l G q_b q_bA q_bB q_bZ q_bG q_bP q_bQ bC bM bL bD bG (f_J6_numberOfTrailingZeros_0f7a4 v1) 1) [0, 2] rfl rfl rfl rfl gX2_learn_X0_goodNumber ⟨_, rfl⟩ hd_X0_goodNumber rfl dX2_learn_69 rfl rfl (Nat.le_of_ble_eq_true rfl) ⟨Nat.le_of_ble_eq_true rfl, Nat.le_of_ble_eq_true rfl⟩ ⟨Nat.le_refl 0, Nat.le_refl 0⟩ hx hb hml hown hts hB hS hP hl.1 ?_
        refine W.eq (g2 := F0 m 72 ls [.int (f_X0_goodNumber (f_J6_numberOfTrailingZeros_0f7a4 v1) 1 bG), .int (f_X6_at (v1 &&& (v1 - 1)) w_rL 256), .int v1, .ref q_rL]) rfl ?_
        refine lv_iadd hx hb dX2_learn_72 ?_
        refine wr_SN (As := [.ref q_rL, .int v1, .int ((f_X6_at (v1 &&& (v1 - 1)) w_rL 256) + (f_X0_goodNumber (f_J6_numberOfTrailingZeros_0f7a4 v1) 1 bG))]) (rest := []) (wr := [oX0 q_b q_bA q_bB q_bZ q_bG q_bP q_bQ bC bM bL bD, aI G q_bA 18 bA, aI G q_bG 24 bG, oX2 q_r q_b q_rK q_rL q_rG, aI G q_rK 256 (f_X6_store v1 ((f_X6_at (v1 &&& (v1 - 1)) w_rK 256) + (f_X0_goodNumber (f_J6_numberOfTrailingZeros_0f7a4 v1) 0 bG)) w_rK 256), aI G q_rG 3 rG]) (wf := [oX0 q_b q_bA q_bB q_bZ q_bG q_bP q_bQ bC bM bL bD, aI G q_bA 18 bA, aI G q_bG 24 bG, oX2 q_r q_b q_rK q_rL q_rG, aI G q_rK 256 (f_X6_store v1 ((f_X6_at (v1 &&& (v1 - 1)) w_rK 256) + (f_X0_goodNumber (f_J6_numberOfTrailingZeros_0f7a4 v1) 0 bG)) w_rK 256), aI G q_rL 256 (f_X6_store v1 ((f_X6_at (v1 &&& (v1 - 1)) w_rL 256) + (f_X0_goodNumber (f_J6_numberOfTrailingZeros_0f7a4 v1) 1 bG)) w_rL 256), aI G q_rG 3 rG]) (c_X6_store l G 256 (by decide) q_rL w_rL v1 ((f_X6_at (v1 &&& (v1 - 1)) w_rL 256) + (f_X0_goodNumber (f_J6_numberOfTrailingZeros_0f7a4 v1) 1 bG))) [5] [0, 1, 2, 3, 4, 6] [0, 1, 2, 3, 4, 6, 5] rfl rfl rfl (by decide) gX2_learn_X6_store_n45 ⟨_, rfl⟩ hd_X6_store 7 rfl m_0 m_2 dX2_learn_73 rfl rfl (Nat.le_of_ble_eq_true rfl) ⟨Nat.le_of_ble_eq_true rfl, Nat.le_of_ble_eq_true rfl⟩ ⟨Nat.le_refl 0, Nat.le_refl 0⟩ hx hb hml hown hts hB hD hS hA hP hl.1 (fun H locs hP hD hS => ?_)
        refine W.eq (g2 := F0 m 76 ls []) rfl ?_
        refine lv_iinc (v := (v1 + 1)) (lv' := [(1, .int (v1 + 1)), (3, .int (f_J6_numberOfTrailingZeros_0f7a4 v1)), (2, .int (v1 &&& (v1 - 1))), (0, .ref q_r)]) hx hb dX2_learn_76 hl (k := 3) rfl (by rfl) (by decide) rfl (fun ls hl => ?_)
        refine lv_goto (tgt := 2) hx hb dX2_learn_79 (by decide) ?_
        have e9 : f_X2_learn_L2 bG bM (n + 1) v1 w_rK w_rL = f_X2_learn_L2 bG bM n (v1 + 1) (f_X6_store v1 ((f_X6_at (v1 &&& (v1 - 1)) w_rK 256) + (f_X0_goodNumber (f_J6_numberOfTrailingZeros_0f7a4 v1) 0 bG)) w_rK 256) (f_X6_store v1 ((f_X6_at (v1 &&& (v1 - 1)) w_rL 256) + (f_X0_goodNumber (f_J6_numberOfTrailingZeros_0f7a4 v1) 1 bG)) w_rL 256) := by rw [f_X2_learn_L2, if_neg c_1]
        rw [e9] at kk
        exact ih (v1 + 1) (f_X6_store v1 ((f_X6_at (v1 &&& (v1 - 1)) w_rK 256) + (f_X0_goodNumber (f_J6_numberOfTrailingZeros_0f7a4 v1) 0 bG)) w_rK 256) (f_X6_store v1 ((f_X6_at (v1 &&& (v1 - 1)) w_rL 256) + (f_X0_goodNumber (f_J6_numberOfTrailingZeros_0f7a4 v1) 1 bG)) w_rL 256) hk _ _ hP hD hS ls (lv_sub hl [3, 0] rfl) kk
  obtain ⟨hkL, hk⟩ := hk
  refine L2 FU 1 rK rL hkL _ _ hP hD hS ls (lv_sub hl [1, 0] rfl) (fun H locs hP hD hS ls hl => ?_)
  have hP : va_P (gD G) vwCl [oX0 q_b q_bA q_bB q_bZ q_bG q_bP q_bQ bC bM bL bD, aI G q_bA 18 bA, aI G q_bG 24 bG, oX2 q_r q_b q_rK q_rL q_rG, aI G q_rK 256 ((f_X2_learn_L2 bG bM FU 1 rK rL).2.1), aI G q_rL 256 ((f_X2_learn_L2 bG bM FU 1 rK rL).2.2), aI G q_rG 3 rG] H := hP
  have hD : va_D A [oX0 q_b q_bA q_bB q_bZ q_bG q_bP q_bQ bC bM bL bD, aI G q_bA 18 bA, aI G q_bG 24 bG, oX2 q_r q_b q_rK q_rL q_rG, aI G q_rK 256 ((f_X2_learn_L2 bG bM FU 1 rK rL).2.1), aI G q_rL 256 ((f_X2_learn_L2 bG bM FU 1 rK rL).2.2), aI G q_rG 3 rG] := hD
  refine lv_iconst (v := 0) hx hb dX2_learn_82 (by decide) ?_
  refine lv_istore_n (lv' := [(1, .int 0), (0, .ref q_r)]) hx hb dX2_learn_83 rfl hl (by decide) rfl (fun ls hl => ?_)
  have L84 : ∀ (n : Nat) (v1 : Int32) (w_rK : Nat → Int32) (w_rL : Nat → Int32) (w_rG : Nat → Int32), k_X2_learn_L84 bA bG bC bM n v1 w_rK w_rL w_rG → ∀ (H : Heap) (locs : List Loc), va_P (gD G) vwCl [oX0 q_b q_bA q_bB q_bZ q_bG q_bP q_bQ bC bM bL bD, aI G q_bA 18 bA, aI G q_bG 24 bG, oX2 q_r q_b q_rK q_rL q_rG, aI G q_rK 256 w_rK, aI G q_rL 256 w_rL, aI G q_rG 3 w_rG] H → va_D A [oX0 q_b q_bA q_bB q_bZ q_bG q_bP q_bQ bC bM bL bD, aI G q_bA 18 bA, aI G q_bG 24 bG, oX2 q_r q_b q_rK q_rL q_rG, aI G q_rK 256 w_rK, aI G q_rL 256 w_rL, aI G q_rG 3 w_rG] → va_S A s.heap H locs → ∀ (ls : Array Slot), lv_has ls 4 [(0, .ref q_r), (1, .int v1)] → (∀ (H : Heap) (locs : List Loc), va_P (gD G) vwCl [oX0 q_b q_bA q_bB q_bZ q_bG q_bP q_bQ bC bM bL bD, aI G q_bA 18 bA, aI G q_bG 24 bG, oX2 q_r q_b q_rK q_rL q_rG, aI G q_rK 256 ((f_X2_learn_L84 bA bG bC bM n v1 w_rK w_rL w_rG).2.1), aI G q_rL 256 ((f_X2_learn_L84 bA bG bC bM n v1 w_rK w_rL w_rG).2.2.1), aI G q_rG 3 ((f_X2_learn_L84 bA bG bC bM n v1 w_rK w_rL w_rG).2.2.2)] H → va_D A [oX0 q_b q_bA q_bB q_bZ q_bG q_bP q_bQ bC bM bL bD, aI G q_bA 18 bA, aI G q_bG 24 bG, oX2 q_r q_b q_rK q_rL q_rG, aI G q_rK 256 ((f_X2_learn_L84 bA bG bC bM n v1 w_rK w_rL w_rG).2.1), aI G q_rL 256 ((f_X2_learn_L84 bA bG bC bM n v1 w_rK w_rL w_rG).2.2.1), aI G q_rG 3 ((f_X2_learn_L84 bA bG bC bM n v1 w_rK w_rL w_rG).2.2.2)] → va_S A s.heap H locs → ∀ (ls : Array Slot), lv_has ls 4 [(0, .ref q_r), (1, .int ((f_X2_learn_L84 bA bG bC bM n v1 w_rK w_rL w_rG).1))] → W p l e (rm 3) s m args below meth c H locs 0 0 Q (F0 m 122 ls [])) → W p l e (rm 3) s m args below meth c H locs 0 0 Q (F0 m 84 ls []) := by
    intro n
    induction n with
    | zero => intro v1 w_rK w_rL w_rG hk; exact (hk : False).elim
    | succ n ih =>
      intro v1 w_rK w_rL w_rG hk H locs hP hD hS ls hl kk
      rw [k_X2_learn_L84] at hk
      refine lv_iload_n hx hb dX2_learn_84 rfl (lv_at hl 1 rfl) ?_
      refine lv_aload_n hx hb dX2_learn_85 rfl (lv_at hl 0 rfl) ?_
      refine va_get (D := gD G) (ci := 2) (v := .ref q_b) (C := RX2) (T := TX2) (N := 4) hx hb hts i_X2 hown hB.1 hP 3 rfl rfl 0 (by decide) t_0 (fun _ h9 => h9) rfl dX2_learn_86 ?_
      refine ro_V (ci := 0) (q0 := 0) (As := []) (rest := [.int v1]) (c_X0_carrierCount l G q_b q_bA q_bB q_bZ q_bG q_bP q_bQ bC bM bL bD) [0] rfl rfl rfl rfl gX2_learn_X0_carrierCount ⟨_, rfl⟩ hd_X0_carrierCount rfl dX2_learn_89 rfl rfl (Nat.le_of_ble_eq_true rfl) ⟨Nat.le_of_ble_eq_true rfl, Nat.le_of_ble_eq_true rfl⟩ ⟨Nat.le_refl 0, Nat.le_refl 0⟩ hx hb hml hown hts hB hS hP hl.1 ?_
      refine W.eq (g2 := F0 m 92 ls [.int (f_X0_carrierCount bC), .int v1]) rfl ?_
      refine lv_icmp_ge (tgt := 122) hx hb dX2_learn_92 (by decide) (fun c_2 => ?_) (fun c_2 => ?_)
      · rw [if_pos c_2] at hk
        have e9 : f_X2_learn_L84 bA bG bC bM (n + 1) v1 w_rK w_rL w_rG = (v1, w_rK, w_rL, w_rG) := by rw [f_X2_learn_L84, if_pos c_2]
        rw [e9] at kk
        exact kk _ _ hP hD hS ls (lv_sub hl [0, 1] rfl)
      · rw [if_neg c_2] at hk
        refine lv_aload_n hx hb dX2_learn_95 rfl (lv_at hl 0 rfl) ?_
        refine va_get (D := gD G) (ci := 2) (v := .ref q_rG) (C := RX2) (T := TX2) (N := 4) hx hb hts i_X2 hown hB.1 hP 3 rfl rfl 3 (by decide) t_3 (fun _ h9 => h9) rfl dX2_learn_96 ?_
        refine lv_iload_n hx hb dX2_learn_99 rfl (lv_at hl 1 rfl) ?_
        refine lv_aload_n hx hb dX2_learn_100 rfl (lv_at hl 0 rfl) ?_
        refine lv_aload_n hx hb dX2_learn_101 rfl (lv_at hl 0 rfl) ?_
        refine va_get (D := gD G) (ci := 2) (v := .ref q_b) (C := RX2) (T := TX2) (N := 4) hx hb hts i_X2 hown hB.1 hP 3 rfl rfl 0 (by decide) t_0 (fun _ h9 => h9) rfl dX2_learn_102 ?_
        refine lv_iload_n hx hb dX2_learn_105 rfl (lv_at hl 1 rfl) ?_
        refine lv_iconst (v := 4) hx hb dX2_learn_106 (by decide) ?_
        refine ro_V (ci := 0) (q0 := 0) (As := [.int v1, .int 4]) (rest := [.ref q_r, .int v1, .ref q_rG]) (c_X0_carrierNumber l G q_b q_bA q_bB q_bZ q_bG q_bP q_bQ bC bM bL bD bA v1 4) [0, 1] rfl rfl rfl rfl gX2_learn_X0_carrierNumber ⟨_, rfl⟩ hd_X0_carrierNumber rfl dX2_learn_107 rfl rfl (Nat.le_of_ble_eq_true rfl) ⟨Nat.le_of_ble_eq_true rfl, Nat.le_of_ble_eq_true rfl⟩ ⟨Nat.le_refl 0, Nat.le_refl 0⟩ hx hb hml hown hts hB hS hP hl.1 ?_
        refine W.eq (g2 := F0 m 110 ls [.int (f_X0_carrierNumber v1 4 bA), .ref q_r, .int v1, .ref q_rG]) rfl ?_
        obtain ⟨o_3, hk⟩ := hk
        refine ro_V (ci := 2) (q0 := 3) (As := [.int (f_X0_carrierNumber v1 4 bA)]) (rest := [.int v1, .ref q_rG]) (c_X2_findLongGoods l G q_b q_bA q_bB q_bZ q_bG q_bP q_bQ q_r q_rK q_rL q_rG bC bM bL bD bG (f_X0_carrierNumber v1 4 bA) o_3) [0, 2, 3] rfl rfl rfl rfl gX2_learn_X2_findLongGoods ⟨_, rfl⟩ hd_X2_findLongGoods rfl dX2_learn_110 rfl rfl (Nat.le_of_ble_eq_true rfl) ⟨Nat.le_of_ble_eq_true rfl, Nat.le_of_ble_eq_true rfl⟩ ⟨Nat.le_refl 0, Nat.le_refl 0⟩ hx hb hml hown hts hB hS hP hl.1 ?_
        refine W.eq (g2 := F0 m 113 ls [.int (f_X2_findLongGoods (f_X0_carrierNumber v1 4 bA) bG bM), .int v1, .ref q_rG]) rfl ?_
        refine wr_SN (As := [.ref q_rG, .int v1, .int (f_X2_findLongGoods (f_X0_carrierNumber v1 4 bA) bG bM)]) (rest := []) (wr := [oX0 q_b q_bA q_bB q_bZ q_bG q_bP q_bQ bC bM bL bD, aI G q_bA 18 bA, aI G q_bG 24 bG, oX2 q_r q_b q_rK q_rL q_rG, aI G q_rK 256 w_rK, aI G q_rL 256 w_rL]) (wf := [oX0 q_b q_bA q_bB q_bZ q_bG q_bP q_bQ bC bM bL bD, aI G q_bA 18 bA, aI G q_bG 24 bG, oX2 q_r q_b q_rK q_rL q_rG, aI G q_rK 256 w_rK, aI G q_rL 256 w_rL, aI G q_rG 3 (f_X6_store v1 (f_X2_findLongGoods (f_X0_carrierNumber v1 4 bA) bG bM) w_rG 3)]) (c_X6_store l G 3 (by decide) q_rG w_rG v1 (f_X2_findLongGoods (f_X0_carrierNumber v1 4 bA) bG bM)) [6] [0, 1, 2, 3, 4, 5] [0, 1, 2, 3, 4, 5, 6] rfl rfl rfl (by decide) gX2_learn_X6_store_n45 ⟨_, rfl⟩ hd_X6_store 7 rfl m_0 m_2 dX2_learn_113 rfl rfl (Nat.le_of_ble_eq_true rfl) ⟨Nat.le_of_ble_eq_true rfl, Nat.le_of_ble_eq_true rfl⟩ ⟨Nat.le_refl 0, Nat.le_refl 0⟩ hx hb hml hown hts hB hD hS hA hP hl.1 (fun H locs hP hD hS => ?_)
        refine W.eq (g2 := F0 m 116 ls []) rfl ?_
        refine lv_iinc (v := (v1 + 1)) (lv' := [(1, .int (v1 + 1)), (0, .ref q_r)]) hx hb dX2_learn_116 hl (k := 1) rfl (by rfl) (by decide) rfl (fun ls hl => ?_)
        refine lv_goto (tgt := 84) hx hb dX2_learn_119 (by decide) ?_
        have e9 : f_X2_learn_L84 bA bG bC bM (n + 1) v1 w_rK w_rL w_rG = f_X2_learn_L84 bA bG bC bM n (v1 + 1) w_rK w_rL (f_X6_store v1 (f_X2_findLongGoods (f_X0_carrierNumber v1 4 bA) bG bM) w_rG 3) := by rw [f_X2_learn_L84, if_neg c_2]
        rw [e9] at kk
        exact ih (v1 + 1) w_rK w_rL (f_X6_store v1 (f_X2_findLongGoods (f_X0_carrierNumber v1 4 bA) bG bM) w_rG 3) hk _ _ hP hD hS ls (lv_sub hl [1, 0] rfl) kk
  obtain ⟨hkL, hk⟩ := hk
  refine L84 FU 0 ((f_X2_learn_L2 bG bM FU 1 rK rL).2.1) ((f_X2_learn_L2 bG bM FU 1 rK rL).2.2) rG hkL _ _ hP hD hS ls (lv_sub hl [1, 0] rfl) (fun H locs hP hD hS ls hl => ?_)
  have hP : va_P (gD G) vwCl [oX0 q_b q_bA q_bB q_bZ q_bG q_bP q_bQ bC bM bL bD, aI G q_bA 18 bA, aI G q_bG 24 bG, oX2 q_r q_b q_rK q_rL q_rG, aI G q_rK 256 ((f_X2_learn_L84 bA bG bC bM FU 0 ((f_X2_learn_L2 bG bM FU 1 rK rL).2.1) ((f_X2_learn_L2 bG bM FU 1 rK rL).2.2) rG).2.1), aI G q_rL 256 ((f_X2_learn_L84 bA bG bC bM FU 0 ((f_X2_learn_L2 bG bM FU 1 rK rL).2.1) ((f_X2_learn_L2 bG bM FU 1 rK rL).2.2) rG).2.2.1), aI G q_rG 3 ((f_X2_learn_L84 bA bG bC bM FU 0 ((f_X2_learn_L2 bG bM FU 1 rK rL).2.1) ((f_X2_learn_L2 bG bM FU 1 rK rL).2.2) rG).2.2.2)] H := hP
  have hD : va_D A [oX0 q_b q_bA q_bB q_bZ q_bG q_bP q_bQ bC bM bL bD, aI G q_bA 18 bA, aI G q_bG 24 bG, oX2 q_r q_b q_rK q_rL q_rG, aI G q_rK 256 ((f_X2_learn_L84 bA bG bC bM FU 0 ((f_X2_learn_L2 bG bM FU 1 rK rL).2.1) ((f_X2_learn_L2 bG bM FU 1 rK rL).2.2) rG).2.1), aI G q_rL 256 ((f_X2_learn_L84 bA bG bC bM FU 0 ((f_X2_learn_L2 bG bM FU 1 rK rL).2.1) ((f_X2_learn_L2 bG bM FU 1 rK rL).2.2) rG).2.2.1), aI G q_rG 3 ((f_X2_learn_L84 bA bG bC bM FU 0 ((f_X2_learn_L2 bG bM FU 1 rK rL).2.1) ((f_X2_learn_L2 bG bM FU 1 rK rL).2.2) rG).2.2.2)] := hD
  have e9 : f_X2_learn rK rL rG bA bG bC bM = (((f_X2_learn_L84 bA bG bC bM FU 0 ((f_X2_learn_L2 bG bM FU 1 rK rL).2.1) ((f_X2_learn_L2 bG bM FU 1 rK rL).2.2) rG).2.1), ((f_X2_learn_L84 bA bG bC bM FU 0 ((f_X2_learn_L2 bG bM FU 1 rK rL).2.1) ((f_X2_learn_L2 bG bM FU 1 rK rL).2.2) rG).2.2.1), ((f_X2_learn_L84 bA bG bC bM FU 0 ((f_X2_learn_L2 bG bM FU 1 rK rL).2.1) ((f_X2_learn_L2 bG bM FU 1 rK rL).2.2) rG).2.2.2)) := by rw [f_X2_learn]
  exact fv 122 _ _ _ rfl dX2_learn_122 rfl (by rw [e9]; exact hP) (by rw [e9]; exact hD) hS

noncomputable def f_X2_zoneOf_L6 (x1 : Int32) (x2 : Int32) (x3 : Int32) (bZ : Nat → Int32) (bQ : Nat → Int32) : Nat → Int32 → Int32 → Int32 × Int32
  | 0, v4, v5 => (v4, v5)
  | n + 1, v4, v5 => (if (f_X0_zonesCount x1 bQ) ≤ v5 then (v4, v5) else (if x3 < (f_X0_zonesNumber x1 v5 0 bZ) then f_X2_zoneOf_L6 x1 x2 x3 bZ bQ n v4 (v5 + 1) else f_X2_zoneOf_L6 x1 x2 x3 bZ bQ n (f_X0_zonesNumber x1 v5 (1 + x2) bZ) (v5 + 1)))
noncomputable def k_X2_zoneOf_L6 (x1 : Int32) (x2 : Int32) (x3 : Int32) (bZ : Nat → Int32) (bQ : Nat → Int32) : Nat → Int32 → Int32 → Prop
  | 0, _, _ => False
  | n + 1, v4, v5 => (if (f_X0_zonesCount x1 bQ) ≤ v5 then True else (if x3 < (f_X0_zonesNumber x1 v5 0 bZ) then k_X2_zoneOf_L6 x1 x2 x3 bZ bQ n v4 (v5 + 1) else k_X2_zoneOf_L6 x1 x2 x3 bZ bQ n (f_X0_zonesNumber x1 v5 (1 + x2) bZ) (v5 + 1)))
noncomputable def f_X2_zoneOf (x1 : Int32) (x2 : Int32) (x3 : Int32) (bZ : Nat → Int32) (bQ : Nat → Int32) : Int32 := ((f_X2_zoneOf_L6 x1 x2 x3 bZ bQ FU 3 0).1)
noncomputable def k_X2_zoneOf (x1 : Int32) (x2 : Int32) (x3 : Int32) (bZ : Nat → Int32) (bQ : Nat → Int32) : Prop := (k_X2_zoneOf_L6 x1 x2 x3 bZ bQ FU 3 0 ∧ True)
theorem hd_X2_zoneOf : yX2_zoneOf.cls ≠ "java/lang/invoke/MethodHandle" ∧ yX2_zoneOf.cls ≠ "java/lang/invoke/VarHandle" ∧ (parseMethodDescriptor yX2_zoneOf.desc).map (fun d => d.parameters.length) = some 3 := by decide +kernel
set_option maxHeartbeats 4000000 in
set_option maxRecDepth 100000 in
theorem c_X2_zoneOf (l : Launch) (G : BGT) (q_b q_bA q_bB q_bZ q_bG q_bP q_bQ q_r q_rK q_rL q_rG : Nat) (bC : Int32) (bM : Int32) (bL : Int32) (bD : Int32) (bZ : Nat → Int32) (bQ : Nat → Int32) (x1 : Int32) (x2 : Int32) (x3 : Int32) (hk : k_X2_zoneOf x1 x2 x3 bZ bQ) : RO l yX2_zoneOf wsX2_zoneOf 2 G [oX0 q_b q_bA q_bB q_bZ q_bG q_bP q_bQ bC bM bL bD, aI G q_bZ 45 bZ, aI G q_bQ 3 bQ, oX2 q_r q_b q_rK q_rL q_rG] [.ref q_r, .int x1, .int x2, .int x3] (some (.int (f_X2_zoneOf x1 x2 x3 bZ bQ))) := by
  refine RO.ofW (cc := cX2_zoneOf) (maxL := 6) (ret := (some .int)) (C := RX2) (by decide) rfl rfl (Nat.le_of_ble_eq_true rfl) ?_
  intro p e s m args below meth c Q ls hx hb hml hts hown hP hB hl fi fl fv
  have hS : va_S (fun _ => False) s.heap s.heap [] := va_S.rf
  have hl : lv_has ls 6 [(0, .ref q_r), (1, .int x1), (2, .int x2), (3, .int x3)] := hl
  have t_0 := hts (.fieldLink RX2 21 "ParcelSplit$Prices" "book" "LParcelSplit$Book;") (by decide +kernel)
  have i_X2 : ∀ w ∈ wsX20, w ∈ wsX2_zoneOf := by decide +kernel
  rw [k_X2_zoneOf] at hk
  refine lv_iconst (v := 3) hx hb dX2_zoneOf_0 (by decide) ?_
  refine lv_istore (lv' := [(4, .int 3), (0, .ref q_r), (1, .int x1), (2, .int x2), (3, .int x3)]) hx hb dX2_zoneOf_1 hl (by decide) rfl (fun ls hl => ?_)
  refine lv_iconst (v := 0) hx hb dX2_zoneOf_3 (by decide) ?_
  refine lv_istore (lv' := [(5, .int 0), (4, .int 3), (0, .ref q_r), (1, .int x1), (2, .int x2), (3, .int x3)]) hx hb dX2_zoneOf_4 hl (by decide) rfl (fun ls hl => ?_)
  have L6 : ∀ (n : Nat) (v4 : Int32) (v5 : Int32), k_X2_zoneOf_L6 x1 x2 x3 bZ bQ n v4 v5 → ∀ (ls : Array Slot), lv_has ls 6 [(0, .ref q_r), (1, .int x1), (2, .int x2), (3, .int x3), (4, .int v4), (5, .int v5)] → (∀ (ls : Array Slot), lv_has ls 6 [(0, .ref q_r), (1, .int x1), (2, .int x2), (3, .int x3), (4, .int ((f_X2_zoneOf_L6 x1 x2 x3 bZ bQ n v4 v5).1)), (5, .int ((f_X2_zoneOf_L6 x1 x2 x3 bZ bQ n v4 v5).2))] → W p l e (rm 2) s m args below meth c s.heap [] 0 0 Q (F0 m 55 ls [])) → W p l e (rm 2) s m args below meth c s.heap [] 0 0 Q (F0 m 6 ls []) := by
    intro n
    induction n with
    | zero => intro v4 v5 hk; exact (hk : False).elim
    | succ n ih =>
      intro v4 v5 hk ls hl kk
      rw [k_X2_zoneOf_L6] at hk
      refine lv_iload hx hb dX2_zoneOf_6 (lv_at hl 5 rfl) ?_
      refine lv_aload_n hx hb dX2_zoneOf_8 rfl (lv_at hl 0 rfl) ?_
      refine va_get (D := gD G) (ci := 2) (v := .ref q_b) (C := RX2) (T := TX2) (N := 4) hx hb hts i_X2 hown hB.1 hP 3 rfl rfl 0 (by decide) t_0 (fun _ h9 => h9) rfl dX2_zoneOf_9 ?_
      refine lv_iload_n hx hb dX2_zoneOf_12 rfl (lv_at hl 1 rfl) ?_
      refine ro_V (ci := 0) (q0 := 0) (As := [.int x1]) (rest := [.int v5]) (c_X0_zonesCount l G q_b q_bA q_bB q_bZ q_bG q_bP q_bQ bC bM bL bD bQ x1) [0, 2] rfl rfl rfl rfl gX2_zoneOf_X0_zonesCount ⟨_, rfl⟩ hd_X0_zonesCount rfl dX2_zoneOf_13 rfl rfl (Nat.le_of_ble_eq_true rfl) ⟨Nat.le_of_ble_eq_true rfl, Nat.le_of_ble_eq_true rfl⟩ ⟨Nat.le_refl 0, Nat.le_refl 0⟩ hx hb hml hown hts hB hS hP hl.1 ?_
      refine W.eq (g2 := F0 m 16 ls [.int (f_X0_zonesCount x1 bQ), .int v5]) rfl ?_
      refine lv_icmp_ge (tgt := 55) hx hb dX2_zoneOf_16 (by decide) (fun c_1 => ?_) (fun c_1 => ?_)
      · rw [if_pos c_1] at hk
        have e9 : f_X2_zoneOf_L6 x1 x2 x3 bZ bQ (n + 1) v4 v5 = (v4, v5) := by rw [f_X2_zoneOf_L6, if_pos c_1]
        rw [e9] at kk
        exact kk ls (lv_sub hl [0, 1, 2, 3, 4, 5] rfl)
      · rw [if_neg c_1] at hk
        refine lv_aload_n hx hb dX2_zoneOf_19 rfl (lv_at hl 0 rfl) ?_
        refine va_get (D := gD G) (ci := 2) (v := .ref q_b) (C := RX2) (T := TX2) (N := 4) hx hb hts i_X2 hown hB.1 hP 3 rfl rfl 0 (by decide) t_0 (fun _ h9 => h9) rfl dX2_zoneOf_20 ?_
        refine lv_iload_n hx hb dX2_zoneOf_23 rfl (lv_at hl 1 rfl) ?_
        refine lv_iload hx hb dX2_zoneOf_24 (lv_at hl 5 rfl) ?_
        refine lv_iconst (v := 0) hx hb dX2_zoneOf_26 (by decide) ?_
        refine ro_V (ci := 0) (q0 := 0) (As := [.int x1, .int v5, .int 0]) (rest := []) (c_X0_zonesNumber l G q_b q_bA q_bB q_bZ q_bG q_bP q_bQ bC bM bL bD bZ x1 v5 0) [0, 1] rfl rfl rfl rfl gX2_zoneOf_X0_zonesNumber ⟨_, rfl⟩ hd_X0_zonesNumber rfl dX2_zoneOf_27 rfl rfl (Nat.le_of_ble_eq_true rfl) ⟨Nat.le_of_ble_eq_true rfl, Nat.le_of_ble_eq_true rfl⟩ ⟨Nat.le_refl 0, Nat.le_refl 0⟩ hx hb hml hown hts hB hS hP hl.1 ?_
        refine W.eq (g2 := F0 m 30 ls [.int (f_X0_zonesNumber x1 v5 0 bZ)]) rfl ?_
        refine lv_iload_n hx hb dX2_zoneOf_30 rfl (lv_at hl 3 rfl) ?_
        refine lv_icmp_gt (tgt := 49) hx hb dX2_zoneOf_31 (by decide) (fun c_2 => ?_) (fun c_2 => ?_)
        · rw [if_pos c_2] at hk
          refine lv_iinc (v := (v5 + 1)) (lv' := [(5, .int (v5 + 1)), (0, .ref q_r), (1, .int x1), (2, .int x2), (3, .int x3), (4, .int v4)]) hx hb dX2_zoneOf_49 hl (k := 5) rfl (by rfl) (by decide) rfl (fun ls hl => ?_)
          refine lv_goto (tgt := 6) hx hb dX2_zoneOf_52 (by decide) ?_
          have e9 : f_X2_zoneOf_L6 x1 x2 x3 bZ bQ (n + 1) v4 v5 = f_X2_zoneOf_L6 x1 x2 x3 bZ bQ n v4 (v5 + 1) := by rw [f_X2_zoneOf_L6, if_neg c_1, if_pos c_2]
          rw [e9] at kk
          exact ih v4 (v5 + 1) hk ls (lv_sub hl [1, 2, 3, 4, 5, 0] rfl) kk
        · rw [if_neg c_2] at hk
          refine lv_aload_n hx hb dX2_zoneOf_34 rfl (lv_at hl 0 rfl) ?_
          refine va_get (D := gD G) (ci := 2) (v := .ref q_b) (C := RX2) (T := TX2) (N := 4) hx hb hts i_X2 hown hB.1 hP 3 rfl rfl 0 (by decide) t_0 (fun _ h9 => h9) rfl dX2_zoneOf_35 ?_
          refine lv_iload_n hx hb dX2_zoneOf_38 rfl (lv_at hl 1 rfl) ?_
          refine lv_iload hx hb dX2_zoneOf_39 (lv_at hl 5 rfl) ?_
          refine lv_iconst (v := 1) hx hb dX2_zoneOf_41 (by decide) ?_
          refine lv_iload_n hx hb dX2_zoneOf_42 rfl (lv_at hl 2 rfl) ?_
          refine lv_iadd hx hb dX2_zoneOf_43 ?_
          refine ro_V (ci := 0) (q0 := 0) (As := [.int x1, .int v5, .int (1 + x2)]) (rest := []) (c_X0_zonesNumber l G q_b q_bA q_bB q_bZ q_bG q_bP q_bQ bC bM bL bD bZ x1 v5 (1 + x2)) [0, 1] rfl rfl rfl rfl gX2_zoneOf_X0_zonesNumber ⟨_, rfl⟩ hd_X0_zonesNumber rfl dX2_zoneOf_44 rfl rfl (Nat.le_of_ble_eq_true rfl) ⟨Nat.le_of_ble_eq_true rfl, Nat.le_of_ble_eq_true rfl⟩ ⟨Nat.le_refl 0, Nat.le_refl 0⟩ hx hb hml hown hts hB hS hP hl.1 ?_
          refine W.eq (g2 := F0 m 47 ls [.int (f_X0_zonesNumber x1 v5 (1 + x2) bZ)]) rfl ?_
          refine lv_istore (lv' := [(4, .int (f_X0_zonesNumber x1 v5 (1 + x2) bZ)), (0, .ref q_r), (1, .int x1), (2, .int x2), (3, .int x3), (5, .int v5)]) hx hb dX2_zoneOf_47 hl (by decide) rfl (fun ls hl => ?_)
          refine lv_iinc (v := (v5 + 1)) (lv' := [(5, .int (v5 + 1)), (4, .int (f_X0_zonesNumber x1 v5 (1 + x2) bZ)), (0, .ref q_r), (1, .int x1), (2, .int x2), (3, .int x3)]) hx hb dX2_zoneOf_49 hl (k := 5) rfl (by rfl) (by decide) rfl (fun ls hl => ?_)
          refine lv_goto (tgt := 6) hx hb dX2_zoneOf_52 (by decide) ?_
          have e9 : f_X2_zoneOf_L6 x1 x2 x3 bZ bQ (n + 1) v4 v5 = f_X2_zoneOf_L6 x1 x2 x3 bZ bQ n (f_X0_zonesNumber x1 v5 (1 + x2) bZ) (v5 + 1) := by rw [f_X2_zoneOf_L6, if_neg c_1, if_neg c_2]
          rw [e9] at kk
          exact ih (f_X0_zonesNumber x1 v5 (1 + x2) bZ) (v5 + 1) hk ls (lv_sub hl [2, 3, 4, 5, 1, 0] rfl) kk
  obtain ⟨hkL, hk⟩ := hk
  refine L6 FU 3 0 hkL ls (lv_sub hl [2, 3, 4, 5, 1, 0] rfl) (fun ls hl => ?_)
  refine lv_iload hx hb dX2_zoneOf_55 (lv_at hl 4 rfl) ?_
  exact fi 57 _ ((f_X2_zoneOf_L6 x1 x2 x3 bZ bQ FU 3 0).1) .int rfl rfl dX2_zoneOf_57 (by rw [f_X2_zoneOf])

noncomputable def f_X2_zonesAt_L5 (x1 : Int32) (x2 : Int32) (bZ : Nat → Int32) (bQ : Nat → Int32) (bC : Int32) : Nat → Int32 → Int32 → Int32 × Int32
  | 0, v3, v4 => (v3, v4)
  | n + 1, v3, v4 => (if (f_X0_carrierCount bC) ≤ v4 then (v3, v4) else f_X2_zonesAt_L5 x1 x2 bZ bQ bC n (v3 ||| ((f_X2_zoneOf v4 x1 x2 bZ bQ) <<< ((2 * v4) &&& 31))) (v4 + 1))
noncomputable def k_X2_zonesAt_L5 (x1 : Int32) (x2 : Int32) (bZ : Nat → Int32) (bQ : Nat → Int32) (bC : Int32) : Nat → Int32 → Int32 → Prop
  | 0, _, _ => False
  | n + 1, v3, v4 => (if (f_X0_carrierCount bC) ≤ v4 then True else (k_X2_zoneOf v4 x1 x2 bZ bQ ∧ k_X2_zonesAt_L5 x1 x2 bZ bQ bC n (v3 ||| ((f_X2_zoneOf v4 x1 x2 bZ bQ) <<< ((2 * v4) &&& 31))) (v4 + 1)))
noncomputable def f_X2_zonesAt (x1 : Int32) (x2 : Int32) (bZ : Nat → Int32) (bQ : Nat → Int32) (bC : Int32) : Int32 := ((f_X2_zonesAt_L5 x1 x2 bZ bQ bC FU 0 0).1)
noncomputable def k_X2_zonesAt (x1 : Int32) (x2 : Int32) (bZ : Nat → Int32) (bQ : Nat → Int32) (bC : Int32) : Prop := (k_X2_zonesAt_L5 x1 x2 bZ bQ bC FU 0 0 ∧ True)
theorem hd_X2_zonesAt : yX2_zonesAt.cls ≠ "java/lang/invoke/MethodHandle" ∧ yX2_zonesAt.cls ≠ "java/lang/invoke/VarHandle" ∧ (parseMethodDescriptor yX2_zonesAt.desc).map (fun d => d.parameters.length) = some 2 := by decide +kernel
set_option maxHeartbeats 4000000 in
set_option maxRecDepth 100000 in
theorem c_X2_zonesAt (l : Launch) (G : BGT) (q_b q_bA q_bB q_bZ q_bG q_bP q_bQ q_r q_rK q_rL q_rG : Nat) (bC : Int32) (bM : Int32) (bL : Int32) (bD : Int32) (bZ : Nat → Int32) (bQ : Nat → Int32) (x1 : Int32) (x2 : Int32) (hk : k_X2_zonesAt x1 x2 bZ bQ bC) : RO l yX2_zonesAt wsX2_zonesAt 3 G [oX0 q_b q_bA q_bB q_bZ q_bG q_bP q_bQ bC bM bL bD, aI G q_bZ 45 bZ, aI G q_bQ 3 bQ, oX2 q_r q_b q_rK q_rL q_rG] [.ref q_r, .int x1, .int x2] (some (.int (f_X2_zonesAt x1 x2 bZ bQ bC))) := by
  refine RO.ofW (cc := cX2_zonesAt) (maxL := 5) (ret := (some .int)) (C := RX2) (by decide) rfl rfl (Nat.le_of_ble_eq_true rfl) ?_
  intro p e s m args below meth c Q ls hx hb hml hts hown hP hB hl fi fl fv
  have hS : va_S (fun _ => False) s.heap s.heap [] := va_S.rf
  have hl : lv_has ls 5 [(0, .ref q_r), (1, .int x1), (2, .int x2)] := hl
  have t_0 := hts (.fieldLink RX2 21 "ParcelSplit$Prices" "book" "LParcelSplit$Book;") (by decide +kernel)
  have i_X2 : ∀ w ∈ wsX20, w ∈ wsX2_zonesAt := by decide +kernel
  rw [k_X2_zonesAt] at hk
  refine lv_iconst (v := 0) hx hb dX2_zonesAt_0 (by decide) ?_
  refine lv_istore_n (lv' := [(3, .int 0), (0, .ref q_r), (1, .int x1), (2, .int x2)]) hx hb dX2_zonesAt_1 rfl hl (by decide) rfl (fun ls hl => ?_)
  refine lv_iconst (v := 0) hx hb dX2_zonesAt_2 (by decide) ?_
  refine lv_istore (lv' := [(4, .int 0), (3, .int 0), (0, .ref q_r), (1, .int x1), (2, .int x2)]) hx hb dX2_zonesAt_3 hl (by decide) rfl (fun ls hl => ?_)
  have L5 : ∀ (n : Nat) (v3 : Int32) (v4 : Int32), k_X2_zonesAt_L5 x1 x2 bZ bQ bC n v3 v4 → ∀ (ls : Array Slot), lv_has ls 5 [(0, .ref q_r), (1, .int x1), (2, .int x2), (3, .int v3), (4, .int v4)] → (∀ (ls : Array Slot), lv_has ls 5 [(0, .ref q_r), (1, .int x1), (2, .int x2), (3, .int ((f_X2_zonesAt_L5 x1 x2 bZ bQ bC n v3 v4).1)), (4, .int ((f_X2_zonesAt_L5 x1 x2 bZ bQ bC n v3 v4).2))] → W p l e (rm 3) s m args below meth c s.heap [] 0 0 Q (F0 m 39 ls [])) → W p l e (rm 3) s m args below meth c s.heap [] 0 0 Q (F0 m 5 ls []) := by
    intro n
    induction n with
    | zero => intro v3 v4 hk; exact (hk : False).elim
    | succ n ih =>
      intro v3 v4 hk ls hl kk
      rw [k_X2_zonesAt_L5] at hk
      refine lv_iload hx hb dX2_zonesAt_5 (lv_at hl 4 rfl) ?_
      refine lv_aload_n hx hb dX2_zonesAt_7 rfl (lv_at hl 0 rfl) ?_
      refine va_get (D := gD G) (ci := 2) (v := .ref q_b) (C := RX2) (T := TX2) (N := 4) hx hb hts i_X2 hown hB.1 hP 3 rfl rfl 0 (by decide) t_0 (fun _ h9 => h9) rfl dX2_zonesAt_8 ?_
      refine ro_V (ci := 0) (q0 := 0) (As := []) (rest := [.int v4]) (c_X0_carrierCount l G q_b q_bA q_bB q_bZ q_bG q_bP q_bQ bC bM bL bD) [0] rfl rfl rfl rfl gX2_zonesAt_X0_carrierCount ⟨_, rfl⟩ hd_X0_carrierCount rfl dX2_zonesAt_11 rfl rfl (Nat.le_of_ble_eq_true rfl) ⟨Nat.le_of_ble_eq_true rfl, Nat.le_of_ble_eq_true rfl⟩ ⟨Nat.le_refl 0, Nat.le_refl 0⟩ hx hb hml hown hts hB hS hP hl.1 ?_
      refine W.eq (g2 := F0 m 14 ls [.int (f_X0_carrierCount bC), .int v4]) rfl ?_
      refine lv_icmp_ge (tgt := 39) hx hb dX2_zonesAt_14 (by decide) (fun c_1 => ?_) (fun c_1 => ?_)
      · rw [if_pos c_1] at hk
        have e9 : f_X2_zonesAt_L5 x1 x2 bZ bQ bC (n + 1) v3 v4 = (v3, v4) := by rw [f_X2_zonesAt_L5, if_pos c_1]
        rw [e9] at kk
        exact kk ls (lv_sub hl [0, 1, 2, 3, 4] rfl)
      · rw [if_neg c_1] at hk
        refine lv_iload_n hx hb dX2_zonesAt_17 rfl (lv_at hl 3 rfl) ?_
        refine lv_aload_n hx hb dX2_zonesAt_18 rfl (lv_at hl 0 rfl) ?_
        refine lv_iload hx hb dX2_zonesAt_19 (lv_at hl 4 rfl) ?_
        refine lv_iload_n hx hb dX2_zonesAt_21 rfl (lv_at hl 1 rfl) ?_
        refine lv_iload_n hx hb dX2_zonesAt_22 rfl (lv_at hl 2 rfl) ?_
        obtain ⟨o_2, hk⟩ := hk
        refine ro_V (ci := 2) (q0 := 3) (As := [.int v4, .int x1, .int x2]) (rest := [.int v3]) (c_X2_zoneOf l G q_b q_bA q_bB q_bZ q_bG q_bP q_bQ q_r q_rK q_rL q_rG bC bM bL bD bZ bQ v4 x1 x2 o_2) [0, 1, 2, 3] rfl rfl rfl rfl gX2_zonesAt_X2_zoneOf ⟨_, rfl⟩ hd_X2_zoneOf rfl dX2_zonesAt_23 rfl rfl (Nat.le_of_ble_eq_true rfl) ⟨Nat.le_of_ble_eq_true rfl, Nat.le_of_ble_eq_true rfl⟩ ⟨Nat.le_refl 0, Nat.le_refl 0⟩ hx hb hml hown hts hB hS hP hl.1 ?_
        refine W.eq (g2 := F0 m 26 ls [.int (f_X2_zoneOf v4 x1 x2 bZ bQ), .int v3]) rfl ?_
        refine lv_iconst (v := 2) hx hb dX2_zonesAt_26 (by decide) ?_
        refine lv_iload hx hb dX2_zonesAt_27 (lv_at hl 4 rfl) ?_
        refine lv_imul hx hb dX2_zonesAt_29 ?_
        refine lv_ishl hx hb dX2_zonesAt_30 ?_
        refine lv_ior hx hb dX2_zonesAt_31 ?_
        refine lv_istore_n (lv' := [(3, .int (v3 ||| ((f_X2_zoneOf v4 x1 x2 bZ bQ) <<< ((2 * v4) &&& 31)))), (0, .ref q_r), (1, .int x1), (2, .int x2), (4, .int v4)]) hx hb dX2_zonesAt_32 rfl hl (by decide) rfl (fun ls hl => ?_)
        refine lv_iinc (v := (v4 + 1)) (lv' := [(4, .int (v4 + 1)), (3, .int (v3 ||| ((f_X2_zoneOf v4 x1 x2 bZ bQ) <<< ((2 * v4) &&& 31)))), (0, .ref q_r), (1, .int x1), (2, .int x2)]) hx hb dX2_zonesAt_33 hl (k := 4) rfl (by rfl) (by decide) rfl (fun ls hl => ?_)
        refine lv_goto (tgt := 5) hx hb dX2_zonesAt_36 (by decide) ?_
        have e9 : f_X2_zonesAt_L5 x1 x2 bZ bQ bC (n + 1) v3 v4 = f_X2_zonesAt_L5 x1 x2 bZ bQ bC n (v3 ||| ((f_X2_zoneOf v4 x1 x2 bZ bQ) <<< ((2 * v4) &&& 31))) (v4 + 1) := by rw [f_X2_zonesAt_L5, if_neg c_1]
        rw [e9] at kk
        exact ih (v3 ||| ((f_X2_zoneOf v4 x1 x2 bZ bQ) <<< ((2 * v4) &&& 31))) (v4 + 1) hk ls (lv_sub hl [2, 3, 4, 1, 0] rfl) kk
  obtain ⟨hkL, hk⟩ := hk
  refine L5 FU 0 0 hkL ls (lv_sub hl [2, 3, 4, 1, 0] rfl) (fun ls hl => ?_)
  refine lv_iload_n hx hb dX2_zonesAt_39 rfl (lv_at hl 3 rfl) ?_
  exact fi 40 _ ((f_X2_zonesAt_L5 x1 x2 bZ bQ bC FU 0 0).1) .int rfl rfl dX2_zonesAt_40 (by rw [f_X2_zonesAt])

noncomputable def f_X2_priceOf_L14 (x1 : Int32) (x2 : Int32) (x3 : Int32) (bB : Nat → Int32) (bP : Nat → Int32) : Nat → Int32 → Int32 → Int32 × Int32
  | 0, v4, v5 => (v4, v5)
  | n + 1, v4, v5 => (if (f_X0_breakCount x1 bP) ≤ v5 then (v4, v5) else (if (f_X0_breakNumber x1 v5 0 bB) < x3 then f_X2_priceOf_L14 x1 x2 x3 bB bP n v4 (v5 + 1) else (if v4 < 0 then f_X2_priceOf_L14 x1 x2 x3 bB bP n (f_X0_breakNumber x1 v5 (1 + x2) bB) (v5 + 1) else (if v4 ≤ (f_X0_breakNumber x1 v5 (1 + x2) bB) then f_X2_priceOf_L14 x1 x2 x3 bB bP n v4 (v5 + 1) else f_X2_priceOf_L14 x1 x2 x3 bB bP n (f_X0_breakNumber x1 v5 (1 + x2) bB) (v5 + 1)))))
noncomputable def k_X2_priceOf_L14 (x1 : Int32) (x2 : Int32) (x3 : Int32) (bB : Nat → Int32) (bP : Nat → Int32) : Nat → Int32 → Int32 → Prop
  | 0, _, _ => False
  | n + 1, v4, v5 => (if (f_X0_breakCount x1 bP) ≤ v5 then True else (if (f_X0_breakNumber x1 v5 0 bB) < x3 then k_X2_priceOf_L14 x1 x2 x3 bB bP n v4 (v5 + 1) else (if v4 < 0 then k_X2_priceOf_L14 x1 x2 x3 bB bP n (f_X0_breakNumber x1 v5 (1 + x2) bB) (v5 + 1) else (if v4 ≤ (f_X0_breakNumber x1 v5 (1 + x2) bB) then k_X2_priceOf_L14 x1 x2 x3 bB bP n v4 (v5 + 1) else k_X2_priceOf_L14 x1 x2 x3 bB bP n (f_X0_breakNumber x1 v5 (1 + x2) bB) (v5 + 1)))))
noncomputable def f_X2_priceOf (x1 : Int32) (x2 : Int32) (x3 : Int32) (bB : Nat → Int32) (bP : Nat → Int32) : Int32 := (if x2 = 3 then (-1) else ((f_X2_priceOf_L14 x1 x2 x3 bB bP FU (-1) 0).1))
noncomputable def k_X2_priceOf (x1 : Int32) (x2 : Int32) (x3 : Int32) (bB : Nat → Int32) (bP : Nat → Int32) : Prop := (if x2 = 3 then True else (k_X2_priceOf_L14 x1 x2 x3 bB bP FU (-1) 0 ∧ True))
theorem hd_X2_priceOf : yX2_priceOf.cls ≠ "java/lang/invoke/MethodHandle" ∧ yX2_priceOf.cls ≠ "java/lang/invoke/VarHandle" ∧ (parseMethodDescriptor yX2_priceOf.desc).map (fun d => d.parameters.length) = some 3 := by decide +kernel
set_option maxHeartbeats 4000000 in
set_option maxRecDepth 100000 in
theorem c_X2_priceOf (l : Launch) (G : BGT) (q_b q_bA q_bB q_bZ q_bG q_bP q_bQ q_r q_rK q_rL q_rG : Nat) (bC : Int32) (bM : Int32) (bL : Int32) (bD : Int32) (bB : Nat → Int32) (bP : Nat → Int32) (x1 : Int32) (x2 : Int32) (x3 : Int32) (hk : k_X2_priceOf x1 x2 x3 bB bP) : RO l yX2_priceOf wsX2_priceOf 2 G [oX0 q_b q_bA q_bB q_bZ q_bG q_bP q_bQ bC bM bL bD, aI G q_bB 60 bB, aI G q_bP 3 bP, oX2 q_r q_b q_rK q_rL q_rG] [.ref q_r, .int x1, .int x2, .int x3] (some (.int (f_X2_priceOf x1 x2 x3 bB bP))) := by
  refine RO.ofW (cc := cX2_priceOf) (maxL := 7) (ret := (some .int)) (C := RX2) (by decide) rfl rfl (Nat.le_of_ble_eq_true rfl) ?_
  intro p e s m args below meth c Q ls hx hb hml hts hown hP hB hl fi fl fv
  have hS : va_S (fun _ => False) s.heap s.heap [] := va_S.rf
  have hl : lv_has ls 7 [(0, .ref q_r), (1, .int x1), (2, .int x2), (3, .int x3)] := hl
  have t_0 := hts (.fieldLink RX2 21 "ParcelSplit$Prices" "book" "LParcelSplit$Book;") (by decide +kernel)
  have i_X2 : ∀ w ∈ wsX20, w ∈ wsX2_priceOf := by decide +kernel
  rw [k_X2_priceOf] at hk
  refine lv_iconst (v := (-1)) hx hb dX2_priceOf_0 (by decide) ?_
  refine lv_istore (lv' := [(4, .int (-1)), (0, .ref q_r), (1, .int x1), (2, .int x2), (3, .int x3)]) hx hb dX2_priceOf_1 hl (by decide) rfl (fun ls hl => ?_)
  refine lv_iload_n hx hb dX2_priceOf_3 rfl (lv_at hl 3 rfl) ?_
  refine lv_iconst (v := 3) hx hb dX2_priceOf_4 (by decide) ?_
  refine lv_icmp_ne (tgt := 11) hx hb dX2_priceOf_5 (by decide) (fun c_1 => ?_) (fun c_1 => ?_)
  · rw [if_neg c_1] at hk
    refine lv_iconst (v := 0) hx hb dX2_priceOf_11 (by decide) ?_
    refine lv_istore (lv' := [(5, .int 0), (4, .int (-1)), (0, .ref q_r), (1, .int x1), (2, .int x2), (3, .int x3)]) hx hb dX2_priceOf_12 hl (by decide) rfl (fun ls hl => ?_)
    have L14 : ∀ (n : Nat) (v4 : Int32) (v5 : Int32), k_X2_priceOf_L14 x1 x2 x3 bB bP n v4 v5 → ∀ (ls : Array Slot), lv_has ls 7 [(0, .ref q_r), (1, .int x1), (2, .int x2), (3, .int x3), (4, .int v4), (5, .int v5)] → (∀ (ls : Array Slot), lv_has ls 7 [(0, .ref q_r), (1, .int x1), (2, .int x2), (3, .int x3), (4, .int ((f_X2_priceOf_L14 x1 x2 x3 bB bP n v4 v5).1)), (5, .int ((f_X2_priceOf_L14 x1 x2 x3 bB bP n v4 v5).2))] → W p l e (rm 2) s m args below meth c s.heap [] 0 0 Q (F0 m 79 ls [])) → W p l e (rm 2) s m args below meth c s.heap [] 0 0 Q (F0 m 14 ls []) := by
      intro n
      induction n with
      | zero => intro v4 v5 hk; exact (hk : False).elim
      | succ n ih =>
        intro v4 v5 hk ls hl kk
        rw [k_X2_priceOf_L14] at hk
        refine lv_iload hx hb dX2_priceOf_14 (lv_at hl 5 rfl) ?_
        refine lv_aload_n hx hb dX2_priceOf_16 rfl (lv_at hl 0 rfl) ?_
        refine va_get (D := gD G) (ci := 2) (v := .ref q_b) (C := RX2) (T := TX2) (N := 4) hx hb hts i_X2 hown hB.1 hP 3 rfl rfl 0 (by decide) t_0 (fun _ h9 => h9) rfl dX2_priceOf_17 ?_
        refine lv_iload_n hx hb dX2_priceOf_20 rfl (lv_at hl 1 rfl) ?_
        refine ro_V (ci := 0) (q0 := 0) (As := [.int x1]) (rest := [.int v5]) (c_X0_breakCount l G q_b q_bA q_bB q_bZ q_bG q_bP q_bQ bC bM bL bD bP x1) [0, 2] rfl rfl rfl rfl gX2_priceOf_X0_breakCount ⟨_, rfl⟩ hd_X0_breakCount rfl dX2_priceOf_21 rfl rfl (Nat.le_of_ble_eq_true rfl) ⟨Nat.le_of_ble_eq_true rfl, Nat.le_of_ble_eq_true rfl⟩ ⟨Nat.le_refl 0, Nat.le_refl 0⟩ hx hb hml hown hts hB hS hP hl.1 ?_
        refine W.eq (g2 := F0 m 24 ls [.int (f_X0_breakCount x1 bP), .int v5]) rfl ?_
        refine lv_icmp_ge (tgt := 79) hx hb dX2_priceOf_24 (by decide) (fun c_2 => ?_) (fun c_2 => ?_)
        · rw [if_pos c_2] at hk
          have e9 : f_X2_priceOf_L14 x1 x2 x3 bB bP (n + 1) v4 v5 = (v4, v5) := by rw [f_X2_priceOf_L14, if_pos c_2]
          rw [e9] at kk
          exact kk ls (lv_sub hl [0, 1, 2, 3, 4, 5] rfl)
        · rw [if_neg c_2] at hk
          refine lv_aload_n hx hb dX2_priceOf_27 rfl (lv_at hl 0 rfl) ?_
          refine va_get (D := gD G) (ci := 2) (v := .ref q_b) (C := RX2) (T := TX2) (N := 4) hx hb hts i_X2 hown hB.1 hP 3 rfl rfl 0 (by decide) t_0 (fun _ h9 => h9) rfl dX2_priceOf_28 ?_
          refine lv_iload_n hx hb dX2_priceOf_31 rfl (lv_at hl 1 rfl) ?_
          refine lv_iload hx hb dX2_priceOf_32 (lv_at hl 5 rfl) ?_
          refine lv_iconst (v := 1) hx hb dX2_priceOf_34 (by decide) ?_
          refine lv_iload_n hx hb dX2_priceOf_35 rfl (lv_at hl 2 rfl) ?_
          refine lv_iadd hx hb dX2_priceOf_36 ?_
          refine ro_V (ci := 0) (q0 := 0) (As := [.int x1, .int v5, .int (1 + x2)]) (rest := []) (c_X0_breakNumber l G q_b q_bA q_bB q_bZ q_bG q_bP q_bQ bC bM bL bD bB x1 v5 (1 + x2)) [0, 1] rfl rfl rfl rfl gX2_priceOf_X0_breakNumber ⟨_, rfl⟩ hd_X0_breakNumber rfl dX2_priceOf_37 rfl rfl (Nat.le_of_ble_eq_true rfl) ⟨Nat.le_of_ble_eq_true rfl, Nat.le_of_ble_eq_true rfl⟩ ⟨Nat.le_refl 0, Nat.le_refl 0⟩ hx hb hml hown hts hB hS hP hl.1 ?_
          refine W.eq (g2 := F0 m 40 ls [.int (f_X0_breakNumber x1 v5 (1 + x2) bB)]) rfl ?_
          refine lv_istore (lv' := [(6, .int (f_X0_breakNumber x1 v5 (1 + x2) bB)), (0, .ref q_r), (1, .int x1), (2, .int x2), (3, .int x3), (4, .int v4), (5, .int v5)]) hx hb dX2_priceOf_40 hl (by decide) rfl (fun ls hl => ?_)
          refine lv_aload_n hx hb dX2_priceOf_42 rfl (lv_at hl 1 rfl) ?_
          refine va_get (D := gD G) (ci := 2) (v := .ref q_b) (C := RX2) (T := TX2) (N := 4) hx hb hts i_X2 hown hB.1 hP 3 rfl rfl 0 (by decide) t_0 (fun _ h9 => h9) rfl dX2_priceOf_43 ?_
          refine lv_iload_n hx hb dX2_priceOf_46 rfl (lv_at hl 2 rfl) ?_
          refine lv_iload hx hb dX2_priceOf_47 (lv_at hl 6 rfl) ?_
          refine lv_iconst (v := 0) hx hb dX2_priceOf_49 (by decide) ?_
          refine ro_V (ci := 0) (q0 := 0) (As := [.int x1, .int v5, .int 0]) (rest := []) (c_X0_breakNumber l G q_b q_bA q_bB q_bZ q_bG q_bP q_bQ bC bM bL bD bB x1 v5 0) [0, 1] rfl rfl rfl rfl gX2_priceOf_X0_breakNumber ⟨_, rfl⟩ hd_X0_breakNumber rfl dX2_priceOf_50 rfl rfl (Nat.le_of_ble_eq_true rfl) ⟨Nat.le_of_ble_eq_true rfl, Nat.le_of_ble_eq_true rfl⟩ ⟨Nat.le_refl 0, Nat.le_refl 0⟩ hx hb hml hown hts hB hS hP hl.1 ?_
          refine W.eq (g2 := F0 m 53 ls [.int (f_X0_breakNumber x1 v5 0 bB)]) rfl ?_
          refine lv_iload_n hx hb dX2_priceOf_53 rfl (lv_at hl 4 rfl) ?_
          refine lv_icmp_lt (tgt := 73) hx hb dX2_priceOf_54 (by decide) (fun c_3 => ?_) (fun c_3 => ?_)
          · rw [if_pos c_3] at hk
            refine lv_iinc (v := (v5 + 1)) (lv' := [(5, .int (v5 + 1)), (6, .int (f_X0_breakNumber x1 v5 (1 + x2) bB)), (0, .ref q_r), (1, .int x1), (2, .int x2), (3, .int x3), (4, .int v4)]) hx hb dX2_priceOf_73 hl (k := 6) rfl (by rfl) (by decide) rfl (fun ls hl => ?_)
            refine lv_goto (tgt := 14) hx hb dX2_priceOf_76 (by decide) ?_
            have e9 : f_X2_priceOf_L14 x1 x2 x3 bB bP (n + 1) v4 v5 = f_X2_priceOf_L14 x1 x2 x3 bB bP n v4 (v5 + 1) := by rw [f_X2_priceOf_L14, if_neg c_2, if_pos c_3]
            rw [e9] at kk
            exact ih v4 (v5 + 1) hk ls (lv_sub hl [2, 3, 4, 5, 6, 0] rfl) kk
          · rw [if_neg c_3] at hk
            refine lv_iload hx hb dX2_priceOf_57 (lv_at hl 5 rfl) ?_
            refine lv_if_lt (tgt := 69) hx hb dX2_priceOf_59 (by decide) (fun c_4 => ?_) (fun c_4 => ?_)
            · rw [if_pos c_4] at hk
              refine lv_iload hx hb dX2_priceOf_69 (lv_at hl 0 rfl) ?_
              refine lv_istore (lv' := [(4, .int (f_X0_breakNumber x1 v5 (1 + x2) bB)), (6, .int (f_X0_breakNumber x1 v5 (1 + x2) bB)), (0, .ref q_r), (1, .int x1), (2, .int x2), (3, .int x3), (5, .int v5)]) hx hb dX2_priceOf_71 hl (by decide) rfl (fun ls hl => ?_)
              refine lv_iinc (v := (v5 + 1)) (lv' := [(5, .int (v5 + 1)), (4, .int (f_X0_breakNumber x1 v5 (1 + x2) bB)), (6, .int (f_X0_breakNumber x1 v5 (1 + x2) bB)), (0, .ref q_r), (1, .int x1), (2, .int x2), (3, .int x3)]) hx hb dX2_priceOf_73 hl (k := 6) rfl (by rfl) (by decide) rfl (fun ls hl => ?_)
              refine lv_goto (tgt := 14) hx hb dX2_priceOf_76 (by decide) ?_
              have e9 : f_X2_priceOf_L14 x1 x2 x3 bB bP (n + 1) v4 v5 = f_X2_priceOf_L14 x1 x2 x3 bB bP n (f_X0_breakNumber x1 v5 (1 + x2) bB) (v5 + 1) := by rw [f_X2_priceOf_L14, if_neg c_2, if_neg c_3, if_pos c_4]
              rw [e9] at kk
              exact ih (f_X0_breakNumber x1 v5 (1 + x2) bB) (v5 + 1) hk ls (lv_sub hl [3, 4, 5, 6, 1, 0] rfl) kk
            · rw [if_neg c_4] at hk
              refine lv_iload hx hb dX2_priceOf_62 (lv_at hl 0 rfl) ?_
              refine lv_iload hx hb dX2_priceOf_64 (lv_at hl 5 rfl) ?_
              refine lv_icmp_ge (tgt := 73) hx hb dX2_priceOf_66 (by decide) (fun c_5 => ?_) (fun c_5 => ?_)
              · rw [if_pos c_5] at hk
                refine lv_iinc (v := (v5 + 1)) (lv' := [(5, .int (v5 + 1)), (6, .int (f_X0_breakNumber x1 v5 (1 + x2) bB)), (0, .ref q_r), (1, .int x1), (2, .int x2), (3, .int x3), (4, .int v4)]) hx hb dX2_priceOf_73 hl (k := 6) rfl (by rfl) (by decide) rfl (fun ls hl => ?_)
                refine lv_goto (tgt := 14) hx hb dX2_priceOf_76 (by decide) ?_
                have e9 : f_X2_priceOf_L14 x1 x2 x3 bB bP (n + 1) v4 v5 = f_X2_priceOf_L14 x1 x2 x3 bB bP n v4 (v5 + 1) := by rw [f_X2_priceOf_L14, if_neg c_2, if_neg c_3, if_neg c_4, if_pos c_5]
                rw [e9] at kk
                exact ih v4 (v5 + 1) hk ls (lv_sub hl [2, 3, 4, 5, 6, 0] rfl) kk
              · rw [if_neg c_5] at hk
                refine lv_iload hx hb dX2_priceOf_69 (lv_at hl 0 rfl) ?_
                refine lv_istore (lv' := [(4, .int (f_X0_breakNumber x1 v5 (1 + x2) bB)), (6, .int (f_X0_breakNumber x1 v5 (1 + x2) bB)), (0, .ref q_r), (1, .int x1), (2, .int x2), (3, .int x3), (5, .int v5)]) hx hb dX2_priceOf_71 hl (by decide) rfl (fun ls hl => ?_)
                refine lv_iinc (v := (v5 + 1)) (lv' := [(5, .int (v5 + 1)), (4, .int (f_X0_breakNumber x1 v5 (1 + x2) bB)), (6, .int (f_X0_breakNumber x1 v5 (1 + x2) bB)), (0, .ref q_r), (1, .int x1), (2, .int x2), (3, .int x3)]) hx hb dX2_priceOf_73 hl (k := 6) rfl (by rfl) (by decide) rfl (fun ls hl => ?_)
                refine lv_goto (tgt := 14) hx hb dX2_priceOf_76 (by decide) ?_
                have e9 : f_X2_priceOf_L14 x1 x2 x3 bB bP (n + 1) v4 v5 = f_X2_priceOf_L14 x1 x2 x3 bB bP n (f_X0_breakNumber x1 v5 (1 + x2) bB) (v5 + 1) := by rw [f_X2_priceOf_L14, if_neg c_2, if_neg c_3, if_neg c_4, if_neg c_5]
                rw [e9] at kk
                exact ih (f_X0_breakNumber x1 v5 (1 + x2) bB) (v5 + 1) hk ls (lv_sub hl [3, 4, 5, 6, 1, 0] rfl) kk
    obtain ⟨hkL, hk⟩ := hk
    refine L14 FU (-1) 0 hkL ls (lv_sub hl [2, 3, 4, 5, 1, 0] rfl) (fun ls hl => ?_)
    refine lv_iload hx hb dX2_priceOf_79 (lv_at hl 4 rfl) ?_
    exact fi 81 _ ((f_X2_priceOf_L14 x1 x2 x3 bB bP FU (-1) 0).1) .int rfl rfl dX2_priceOf_81 (by rw [f_X2_priceOf, if_neg c_1])
  · rw [if_pos c_1] at hk
    refine lv_iload hx hb dX2_priceOf_8 (lv_at hl 0 rfl) ?_
    exact fi 10 _ (-1) .int rfl rfl dX2_priceOf_10 (by rw [f_X2_priceOf, if_pos c_1])

noncomputable def f_X2_billedKilos (x1 : Int32) (x2 : Int32) (x3 : Int32) (rL : Nat → Int32) (bA : Nat → Int32) : Int32 := (jmax x3 (f_X2_divideUp (f_X6_at x1 rL 256) (f_X0_carrierNumber x2 2 bA)))
noncomputable def k_X2_billedKilos (x2 : Int32) (bA : Nat → Int32) : Prop := (k_X2_divideUp (f_X0_carrierNumber x2 2 bA) ∧ True)
theorem hd_X2_billedKilos : yX2_billedKilos.cls ≠ "java/lang/invoke/MethodHandle" ∧ yX2_billedKilos.cls ≠ "java/lang/invoke/VarHandle" ∧ (parseMethodDescriptor yX2_billedKilos.desc).map (fun d => d.parameters.length) = some 3 := by decide +kernel
set_option maxHeartbeats 4000000 in
set_option maxRecDepth 100000 in
theorem c_X2_billedKilos (l : Launch) (G : BGT) (q_b q_bA q_bB q_bZ q_bG q_bP q_bQ q_r q_rK q_rL q_rG : Nat) (bC : Int32) (bM : Int32) (bL : Int32) (bD : Int32) (bA : Nat → Int32) (rL : Nat → Int32) (x1 : Int32) (x2 : Int32) (x3 : Int32) (hk : k_X2_billedKilos x2 bA) : RO l yX2_billedKilos wsX2_billedKilos 2 G [oX0 q_b q_bA q_bB q_bZ q_bG q_bP q_bQ bC bM bL bD, aI G q_bA 18 bA, oX2 q_r q_b q_rK q_rL q_rG, aI G q_rL 256 rL] [.ref q_r, .int x1, .int x2, .int x3] (some (.int (f_X2_billedKilos x1 x2 x3 rL bA))) := by
  refine RO.ofW (cc := cX2_billedKilos) (maxL := 4) (ret := (some .int)) (C := RX2) (by decide) rfl rfl (Nat.le_of_ble_eq_true rfl) ?_
  intro p e s m args below meth c Q ls hx hb hml hts hown hP hB hl fi fl fv
  have hS : va_S (fun _ => False) s.heap s.heap [] := va_S.rf
  have hl : lv_has ls 4 [(0, .ref q_r), (1, .int x1), (2, .int x2), (3, .int x3)] := hl
  have t_0 := hts (.fieldLink RX2 15 "ParcelSplit$Prices" "litres" "[I") (by decide +kernel)
  have t_1 := hts (.fieldLink RX2 21 "ParcelSplit$Prices" "book" "LParcelSplit$Book;") (by decide +kernel)
  have t_2 := hts (.methodLink RX2 80 Lib.Math.max.name) (by decide +kernel)
  have t_3 := hts (.static Lib.Math.max.name) (by decide +kernel)
  have t_4 := hts (.initialized "java/lang/Math") (by decide +kernel)
  have t_5 := hts (.code Lib.Math.max.name Lib.Math.max.code 2 (some .int)) (by decide +kernel)
  have m_0 : Cond.initialized RX6 ∈ wsX2_billedKilos := by decide +kernel
  have m_1 : Cond.static yX6_at ∈ wsX2_billedKilos := by decide +kernel
  have i_X2 : ∀ w ∈ wsX20, w ∈ wsX2_billedKilos := by decide +kernel
  rw [k_X2_billedKilos] at hk
  refine lv_iload_n hx hb dX2_billedKilos_0 rfl (lv_at hl 3 rfl) ?_
  refine lv_aload_n hx hb dX2_billedKilos_1 rfl (lv_at hl 0 rfl) ?_
  refine va_get (D := gD G) (ci := 2) (v := .ref q_rL) (C := RX2) (T := TX2) (N := 4) hx hb hts i_X2 hown hB.1 hP 2 rfl rfl 2 (by decide) t_0 (fun _ h9 => h9) rfl dX2_billedKilos_2 ?_
  refine lv_iload_n hx hb dX2_billedKilos_5 rfl (lv_at hl 1 rfl) ?_
  refine ro_SN (As := [.ref q_rL, .int x1]) (rest := [.int x3]) (c_X6_at l G 256 (by decide) q_rL rL x1) [3] rfl gX2_billedKilos_X6_at_n37 ⟨_, rfl⟩ hd_X6_at 6 rfl m_0 m_1 dX2_billedKilos_6 rfl rfl (Nat.le_of_ble_eq_true rfl) ⟨Nat.le_of_ble_eq_true rfl, Nat.le_of_ble_eq_true rfl⟩ ⟨Nat.le_refl 0, Nat.le_refl 0⟩ hx hb hml hown hts hB hS hP hl.1 ?_
  refine W.eq (g2 := F0 m 9 ls [.int (f_X6_at x1 rL 256), .int x3]) rfl ?_
  refine lv_aload_n hx hb dX2_billedKilos_9 rfl (lv_at hl 0 rfl) ?_
  refine va_get (D := gD G) (ci := 2) (v := .ref q_b) (C := RX2) (T := TX2) (N := 4) hx hb hts i_X2 hown hB.1 hP 2 rfl rfl 0 (by decide) t_1 (fun _ h9 => h9) rfl dX2_billedKilos_10 ?_
  refine lv_iload_n hx hb dX2_billedKilos_13 rfl (lv_at hl 2 rfl) ?_
  refine lv_iconst (v := 2) hx hb dX2_billedKilos_14 (by decide) ?_
  refine ro_V (ci := 0) (q0 := 0) (As := [.int x2, .int 2]) (rest := [.int (f_X6_at x1 rL 256), .int x3]) (c_X0_carrierNumber l G q_b q_bA q_bB q_bZ q_bG q_bP q_bQ bC bM bL bD bA x2 2) [0, 1] rfl rfl rfl rfl gX2_billedKilos_X0_carrierNumber ⟨_, rfl⟩ hd_X0_carrierNumber rfl dX2_billedKilos_15 rfl rfl (Nat.le_of_ble_eq_true rfl) ⟨Nat.le_of_ble_eq_true rfl, Nat.le_of_ble_eq_true rfl⟩ ⟨Nat.le_refl 0, Nat.le_refl 0⟩ hx hb hml hown hts hB hS hP hl.1 ?_
  refine W.eq (g2 := F0 m 18 ls [.int (f_X0_carrierNumber x2 2 bA), .int (f_X6_at x1 rL 256), .int x3]) rfl ?_
  obtain ⟨o_1, hk⟩ := hk
  refine ro_S (As := [.int (f_X6_at x1 rL 256), .int (f_X0_carrierNumber x2 2 bA)]) (rest := [.int x3]) (c_X2_divideUp l G (f_X6_at x1 rL 256) (f_X0_carrierNumber x2 2 bA) o_1) [] rfl gX2_billedKilos_X2_divideUp ⟨_, rfl⟩ hd_X2_divideUp dX2_billedKilos_18 rfl rfl (Nat.le_of_ble_eq_true rfl) ⟨Nat.le_of_ble_eq_true rfl, Nat.le_of_ble_eq_true rfl⟩ ⟨Nat.le_refl 0, Nat.le_refl 0⟩ hx hb hml hown hts hB hS hP hl.1 ?_
  refine W.eq (g2 := F0 m 21 ls [.int (f_X2_divideUp (f_X6_at x1 rL 256) (f_X0_carrierNumber x2 2 bA)), .int x3]) rfl ?_
  refine va_mmax hx hb (hml.trans hl.1.symm) hown t_2 t_3 t_4 t_5 (Nat.le_of_ble_eq_true rfl) (Nat.le_of_ble_eq_true rfl) (Nat.le_of_ble_eq_true rfl) (Nat.le_of_ble_eq_true rfl) dX2_billedKilos_21 ?_
  refine W.eq (g2 := F0 m 24 ls [.int (jmax x3 (f_X2_divideUp (f_X6_at x1 rL 256) (f_X0_carrierNumber x2 2 bA)))]) rfl ?_
  exact fi 24 _ (jmax x3 (f_X2_divideUp (f_X6_at x1 rL 256) (f_X0_carrierNumber x2 2 bA))) .int rfl rfl dX2_billedKilos_24 (by rw [f_X2_billedKilos])

noncomputable def f_X2_chargeOf (x1 : Int32) (x2 : Int32) (x3 : Int32) (x4 : Int32) (rL : Nat → Int32) (rG : Nat → Int32) (bA : Nat → Int32) (bB : Nat → Int32) (bP : Nat → Int32) : Int32 := (if x3 = 3 then (-2) else (if x4 ≤ (f_X0_carrierNumber x2 0 bA) then (if (f_X6_at x1 rL 256) ≤ (f_X0_carrierNumber x2 1 bA) then (if 0 ≤ (f_X2_priceOf x2 x3 (f_X2_billedKilos x1 x2 x4 rL bA) bB bP) then (((f_X2_priceOf x2 x3 (f_X2_billedKilos x1 x2 x4 rL bA) bB bP) + ((f_J6_bitCount_0f7a4 (x1 &&& (f_X6_at x2 rG 3))) * (f_X0_carrierNumber x2 5 bA))) + ((((f_X2_priceOf x2 x3 (f_X2_billedKilos x1 x2 x4 rL bA) bB bP) + ((f_J6_bitCount_0f7a4 (x1 &&& (f_X6_at x2 rG 3))) * (f_X0_carrierNumber x2 5 bA))) * (f_X0_carrierNumber x2 3 bA)) / 100)) else (-5)) else (-4)) else (-3)))
noncomputable def k_X2_chargeOf (x1 : Int32) (x2 : Int32) (x3 : Int32) (x4 : Int32) (rL : Nat → Int32) (rG : Nat → Int32) (bA : Nat → Int32) (bB : Nat → Int32) (bP : Nat → Int32) : Prop := (if x3 = 3 then True else (if x4 ≤ (f_X0_carrierNumber x2 0 bA) then (if (f_X6_at x1 rL 256) ≤ (f_X0_carrierNumber x2 1 bA) then (k_X2_billedKilos x2 bA ∧ (k_X2_priceOf x2 x3 (f_X2_billedKilos x1 x2 x4 rL bA) bB bP ∧ (if 0 ≤ (f_X2_priceOf x2 x3 (f_X2_billedKilos x1 x2 x4 rL bA) bB bP) then (k_J6_bitCount_0f7a4 (x1 &&& (f_X6_at x2 rG 3)) ∧ True) else True))) else True) else True))
theorem hd_X2_chargeOf : yX2_chargeOf.cls ≠ "java/lang/invoke/MethodHandle" ∧ yX2_chargeOf.cls ≠ "java/lang/invoke/VarHandle" ∧ (parseMethodDescriptor yX2_chargeOf.desc).map (fun d => d.parameters.length) = some 4 := by decide +kernel
set_option maxHeartbeats 4000000 in
set_option maxRecDepth 100000 in
theorem c_X2_chargeOf (l : Launch) (G : BGT) (q_b q_bA q_bB q_bZ q_bG q_bP q_bQ q_r q_rK q_rL q_rG : Nat) (bC : Int32) (bM : Int32) (bL : Int32) (bD : Int32) (bA : Nat → Int32) (bB : Nat → Int32) (bP : Nat → Int32) (rL : Nat → Int32) (rG : Nat → Int32) (x1 : Int32) (x2 : Int32) (x3 : Int32) (x4 : Int32) (hk : k_X2_chargeOf x1 x2 x3 x4 rL rG bA bB bP) : RO l yX2_chargeOf wsX2_chargeOf 3 G [oX0 q_b q_bA q_bB q_bZ q_bG q_bP q_bQ bC bM bL bD, aI G q_bA 18 bA, aI G q_bB 60 bB, aI G q_bP 3 bP, oX2 q_r q_b q_rK q_rL q_rG, aI G q_rL 256 rL, aI G q_rG 3 rG] [.ref q_r, .int x1, .int x2, .int x3, .int x4] (some (.int (f_X2_chargeOf x1 x2 x3 x4 rL rG bA bB bP))) := by
  refine RO.ofW (cc := cX2_chargeOf) (maxL := 8) (ret := (some .int)) (C := RX2) (by decide) rfl rfl (Nat.le_of_ble_eq_true rfl) ?_
  intro p e s m args below meth c Q ls hx hb hml hts hown hP hB hl fi fl fv
  have hS : va_S (fun _ => False) s.heap s.heap [] := va_S.rf
  have hl : lv_has ls 8 [(0, .ref q_r), (1, .int x1), (2, .int x2), (3, .int x3), (4, .int x4)] := hl
  have t_0 := hts (.fieldLink RX2 21 "ParcelSplit$Prices" "book" "LParcelSplit$Book;") (by decide +kernel)
  have t_1 := hts (.fieldLink RX2 15 "ParcelSplit$Prices" "litres" "[I") (by decide +kernel)
  have t_2 := hts (.fieldLink RX2 18 "ParcelSplit$Prices" "longGoods" "[I") (by decide +kernel)
  have m_0 : Cond.initialized RX6 ∈ wsX2_chargeOf := by decide +kernel
  have m_1 : Cond.static yX6_at ∈ wsX2_chargeOf := by decide +kernel
  have i_X2 : ∀ w ∈ wsX20, w ∈ wsX2_chargeOf := by decide +kernel
  rw [k_X2_chargeOf] at hk
  refine lv_iload_n hx hb dX2_chargeOf_0 rfl (lv_at hl 3 rfl) ?_
  refine lv_iconst (v := 3) hx hb dX2_chargeOf_1 (by decide) ?_
  refine lv_icmp_ne (tgt := 8) hx hb dX2_chargeOf_2 (by decide) (fun c_1 => ?_) (fun c_1 => ?_)
  · rw [if_neg c_1] at hk
    refine lv_iload hx hb dX2_chargeOf_8 (lv_at hl 4 rfl) ?_
    refine lv_aload_n hx hb dX2_chargeOf_10 rfl (lv_at hl 0 rfl) ?_
    refine va_get (D := gD G) (ci := 2) (v := .ref q_b) (C := RX2) (T := TX2) (N := 4) hx hb hts i_X2 hown hB.1 hP 4 rfl rfl 0 (by decide) t_0 (fun _ h9 => h9) rfl dX2_chargeOf_11 ?_
    refine lv_iload_n hx hb dX2_chargeOf_14 rfl (lv_at hl 2 rfl) ?_
    refine lv_iconst (v := 0) hx hb dX2_chargeOf_15 (by decide) ?_
    refine ro_V (ci := 0) (q0 := 0) (As := [.int x2, .int 0]) (rest := [.int x4]) (c_X0_carrierNumber l G q_b q_bA q_bB q_bZ q_bG q_bP q_bQ bC bM bL bD bA x2 0) [0, 1] rfl rfl rfl rfl gX2_chargeOf_X0_carrierNumber ⟨_, rfl⟩ hd_X0_carrierNumber rfl dX2_chargeOf_16 rfl rfl (Nat.le_of_ble_eq_true rfl) ⟨Nat.le_of_ble_eq_true rfl, Nat.le_of_ble_eq_true rfl⟩ ⟨Nat.le_refl 0, Nat.le_refl 0⟩ hx hb hml hown hts hB hS hP hl.1 ?_
    refine W.eq (g2 := F0 m 19 ls [.int (f_X0_carrierNumber x2 0 bA), .int x4]) rfl ?_
    refine lv_icmp_le (tgt := 25) hx hb dX2_chargeOf_19 (by decide) (fun c_2 => ?_) (fun c_2 => ?_)
    · rw [if_pos c_2] at hk
      refine lv_aload_n hx hb dX2_chargeOf_25 rfl (lv_at hl 0 rfl) ?_
      refine va_get (D := gD G) (ci := 2) (v := .ref q_rL) (C := RX2) (T := TX2) (N := 4) hx hb hts i_X2 hown hB.1 hP 4 rfl rfl 2 (by decide) t_1 (fun _ h9 => h9) rfl dX2_chargeOf_26 ?_
      refine lv_iload_n hx hb dX2_chargeOf_29 rfl (lv_at hl 1 rfl) ?_
      refine ro_SN (As := [.ref q_rL, .int x1]) (rest := []) (c_X6_at l G 256 (by decide) q_rL rL x1) [5] rfl gX2_chargeOf_X6_at_n37 ⟨_, rfl⟩ hd_X6_at 6 rfl m_0 m_1 dX2_chargeOf_30 rfl rfl (Nat.le_of_ble_eq_true rfl) ⟨Nat.le_of_ble_eq_true rfl, Nat.le_of_ble_eq_true rfl⟩ ⟨Nat.le_refl 0, Nat.le_refl 0⟩ hx hb hml hown hts hB hS hP hl.1 ?_
      refine W.eq (g2 := F0 m 33 ls [.int (f_X6_at x1 rL 256)]) rfl ?_
      refine lv_aload_n hx hb dX2_chargeOf_33 rfl (lv_at hl 0 rfl) ?_
      refine va_get (D := gD G) (ci := 2) (v := .ref q_b) (C := RX2) (T := TX2) (N := 4) hx hb hts i_X2 hown hB.1 hP 4 rfl rfl 0 (by decide) t_0 (fun _ h9 => h9) rfl dX2_chargeOf_34 ?_
      refine lv_iload_n hx hb dX2_chargeOf_37 rfl (lv_at hl 2 rfl) ?_
      refine lv_iconst (v := 1) hx hb dX2_chargeOf_38 (by decide) ?_
      refine ro_V (ci := 0) (q0 := 0) (As := [.int x2, .int 1]) (rest := [.int (f_X6_at x1 rL 256)]) (c_X0_carrierNumber l G q_b q_bA q_bB q_bZ q_bG q_bP q_bQ bC bM bL bD bA x2 1) [0, 1] rfl rfl rfl rfl gX2_chargeOf_X0_carrierNumber ⟨_, rfl⟩ hd_X0_carrierNumber rfl dX2_chargeOf_39 rfl rfl (Nat.le_of_ble_eq_true rfl) ⟨Nat.le_of_ble_eq_true rfl, Nat.le_of_ble_eq_true rfl⟩ ⟨Nat.le_refl 0, Nat.le_refl 0⟩ hx hb hml hown hts hB hS hP hl.1 ?_
      refine W.eq (g2 := F0 m 42 ls [.int (f_X0_carrierNumber x2 1 bA), .int (f_X6_at x1 rL 256)]) rfl ?_
      refine lv_icmp_le (tgt := 48) hx hb dX2_chargeOf_42 (by decide) (fun c_3 => ?_) (fun c_3 => ?_)
      · rw [if_pos c_3] at hk
        refine lv_aload_n hx hb dX2_chargeOf_48 rfl (lv_at hl 0 rfl) ?_
        refine lv_iload_n hx hb dX2_chargeOf_49 rfl (lv_at hl 2 rfl) ?_
        refine lv_iload_n hx hb dX2_chargeOf_50 rfl (lv_at hl 3 rfl) ?_
        refine lv_aload_n hx hb dX2_chargeOf_51 rfl (lv_at hl 0 rfl) ?_
        refine lv_iload_n hx hb dX2_chargeOf_52 rfl (lv_at hl 1 rfl) ?_
        refine lv_iload_n hx hb dX2_chargeOf_53 rfl (lv_at hl 2 rfl) ?_
        refine lv_iload hx hb dX2_chargeOf_54 (lv_at hl 4 rfl) ?_
        obtain ⟨o_4, hk⟩ := hk
        refine ro_V (ci := 2) (q0 := 4) (As := [.int x1, .int x2, .int x4]) (rest := [.int x3, .int x2, .ref q_r]) (c_X2_billedKilos l G q_b q_bA q_bB q_bZ q_bG q_bP q_bQ q_r q_rK q_rL q_rG bC bM bL bD bA rL x1 x2 x4 o_4) [0, 1, 4, 5] rfl rfl rfl rfl gX2_chargeOf_X2_billedKilos ⟨_, rfl⟩ hd_X2_billedKilos rfl dX2_chargeOf_56 rfl rfl (Nat.le_of_ble_eq_true rfl) ⟨Nat.le_of_ble_eq_true rfl, Nat.le_of_ble_eq_true rfl⟩ ⟨Nat.le_refl 0, Nat.le_refl 0⟩ hx hb hml hown hts hB hS hP hl.1 ?_
        refine W.eq (g2 := F0 m 59 ls [.int (f_X2_billedKilos x1 x2 x4 rL bA), .int x3, .int x2, .ref q_r]) rfl ?_
        obtain ⟨o_5, hk⟩ := hk
        refine ro_V (ci := 2) (q0 := 4) (As := [.int x2, .int x3, .int (f_X2_billedKilos x1 x2 x4 rL bA)]) (rest := []) (c_X2_priceOf l G q_b q_bA q_bB q_bZ q_bG q_bP q_bQ q_r q_rK q_rL q_rG bC bM bL bD bB bP x2 x3 (f_X2_billedKilos x1 x2 x4 rL bA) o_5) [0, 2, 3, 4] rfl rfl rfl rfl gX2_chargeOf_X2_priceOf ⟨_, rfl⟩ hd_X2_priceOf rfl dX2_chargeOf_59 rfl rfl (Nat.le_of_ble_eq_true rfl) ⟨Nat.le_of_ble_eq_true rfl, Nat.le_of_ble_eq_true rfl⟩ ⟨Nat.le_refl 0, Nat.le_refl 0⟩ hx hb hml hown hts hB hS hP hl.1 ?_
        refine W.eq (g2 := F0 m 62 ls [.int (f_X2_priceOf x2 x3 (f_X2_billedKilos x1 x2 x4 rL bA) bB bP)]) rfl ?_
        refine lv_istore (lv' := [(5, .int (f_X2_priceOf x2 x3 (f_X2_billedKilos x1 x2 x4 rL bA) bB bP)), (0, .ref q_r), (1, .int x1), (2, .int x2), (3, .int x3), (4, .int x4)]) hx hb dX2_chargeOf_62 hl (by decide) rfl (fun ls hl => ?_)
        refine lv_iload hx hb dX2_chargeOf_64 (lv_at hl 0 rfl) ?_
        refine lv_if_ge (tgt := 72) hx hb dX2_chargeOf_66 (by decide) (fun c_6 => ?_) (fun c_6 => ?_)
        · rw [if_pos c_6] at hk
          refine lv_iload_n hx hb dX2_chargeOf_72 rfl (lv_at hl 2 rfl) ?_
          refine lv_aload_n hx hb dX2_chargeOf_73 rfl (lv_at hl 1 rfl) ?_
          refine va_get (D := gD G) (ci := 2) (v := .ref q_rG) (C := RX2) (T := TX2) (N := 4) hx hb hts i_X2 hown hB.1 hP 4 rfl rfl 3 (by decide) t_2 (fun _ h9 => h9) rfl dX2_chargeOf_74 ?_
          refine lv_iload_n hx hb dX2_chargeOf_77 rfl (lv_at hl 3 rfl) ?_
          refine ro_SN (As := [.ref q_rG, .int x2]) (rest := [.int x1]) (c_X6_at l G 3 (by decide) q_rG rG x2) [6] rfl gX2_chargeOf_X6_at_n37 ⟨_, rfl⟩ hd_X6_at 6 rfl m_0 m_1 dX2_chargeOf_78 rfl rfl (Nat.le_of_ble_eq_true rfl) ⟨Nat.le_of_ble_eq_true rfl, Nat.le_of_ble_eq_true rfl⟩ ⟨Nat.le_refl 0, Nat.le_refl 0⟩ hx hb hml hown hts hB hS hP hl.1 ?_
          refine W.eq (g2 := F0 m 81 ls [.int (f_X6_at x2 rG 3), .int x1]) rfl ?_
          refine lv_iand hx hb dX2_chargeOf_81 ?_
          obtain ⟨o_7, hk⟩ := hk
          refine ro_S (As := [.int (x1 &&& (f_X6_at x2 rG 3))]) (rest := []) (c_J6_bitCount_0f7a4 l G (x1 &&& (f_X6_at x2 rG 3)) o_7) [] rfl gX2_chargeOf_J6_bitCount_0f7a4 ⟨_, rfl⟩ hd_J6_bitCount_0f7a4 dX2_chargeOf_82 rfl rfl (Nat.le_of_ble_eq_true rfl) ⟨Nat.le_of_ble_eq_true rfl, Nat.le_of_ble_eq_true rfl⟩ ⟨Nat.le_refl 0, Nat.le_refl 0⟩ hx hb hml hown hts hB hS hP hl.1 ?_
          refine W.eq (g2 := F0 m 85 ls [.int (f_J6_bitCount_0f7a4 (x1 &&& (f_X6_at x2 rG 3)))]) rfl ?_
          refine lv_istore (lv' := [(6, .int (f_J6_bitCount_0f7a4 (x1 &&& (f_X6_at x2 rG 3)))), (5, .int (f_X2_priceOf x2 x3 (f_X2_billedKilos x1 x2 x4 rL bA) bB bP)), (0, .ref q_r), (1, .int x1), (2, .int x2), (3, .int x3), (4, .int x4)]) hx hb dX2_chargeOf_85 hl (by decide) rfl (fun ls hl => ?_)
          refine lv_iload hx hb dX2_chargeOf_87 (lv_at hl 1 rfl) ?_
          refine lv_iload hx hb dX2_chargeOf_89 (lv_at hl 0 rfl) ?_
          refine lv_aload_n hx hb dX2_chargeOf_91 rfl (lv_at hl 2 rfl) ?_
          refine va_get (D := gD G) (ci := 2) (v := .ref q_b) (C := RX2) (T := TX2) (N := 4) hx hb hts i_X2 hown hB.1 hP 4 rfl rfl 0 (by decide) t_0 (fun _ h9 => h9) rfl dX2_chargeOf_92 ?_
          refine lv_iload_n hx hb dX2_chargeOf_95 rfl (lv_at hl 4 rfl) ?_
          refine lv_iconst (v := 5) hx hb dX2_chargeOf_96 (by decide) ?_
          refine ro_V (ci := 0) (q0 := 0) (As := [.int x2, .int 5]) (rest := [.int (f_J6_bitCount_0f7a4 (x1 &&& (f_X6_at x2 rG 3))), .int (f_X2_priceOf x2 x3 (f_X2_billedKilos x1 x2 x4 rL bA) bB bP)]) (c_X0_carrierNumber l G q_b q_bA q_bB q_bZ q_bG q_bP q_bQ bC bM bL bD bA x2 5) [0, 1] rfl rfl rfl rfl gX2_chargeOf_X0_carrierNumber ⟨_, rfl⟩ hd_X0_carrierNumber rfl dX2_chargeOf_97 rfl rfl (Nat.le_of_ble_eq_true rfl) ⟨Nat.le_of_ble_eq_true rfl, Nat.le_of_ble_eq_true rfl⟩ ⟨Nat.le_refl 0, Nat.le_refl 0⟩ hx hb hml hown hts hB hS hP hl.1 ?_
          refine W.eq (g2 := F0 m 100 ls [.int (f_X0_carrierNumber x2 5 bA), .int (f_J6_bitCount_0f7a4 (x1 &&& (f_X6_at x2 rG 3))), .int (f_X2_priceOf x2 x3 (f_X2_billedKilos x1 x2 x4 rL bA) bB bP)]) rfl ?_
          refine lv_imul hx hb dX2_chargeOf_100 ?_
          refine lv_iadd hx hb dX2_chargeOf_101 ?_
          refine lv_istore (lv' := [(7, .int ((f_X2_priceOf x2 x3 (f_X2_billedKilos x1 x2 x4 rL bA) bB bP) + ((f_J6_bitCount_0f7a4 (x1 &&& (f_X6_at x2 rG 3))) * (f_X0_carrierNumber x2 5 bA)))), (6, .int (f_J6_bitCount_0f7a4 (x1 &&& (f_X6_at x2 rG 3)))), (5, .int (f_X2_priceOf x2 x3 (f_X2_billedKilos x1 x2 x4 rL bA) bB bP)), (0, .ref q_r), (1, .int x1), (2, .int x2), (3, .int x3), (4, .int x4)]) hx hb dX2_chargeOf_102 hl (by decide) rfl (fun ls hl => ?_)
          refine lv_iload hx hb dX2_chargeOf_104 (lv_at hl 0 rfl) ?_
          refine lv_iload hx hb dX2_chargeOf_106 (lv_at hl 0 rfl) ?_
          refine lv_aload_n hx hb dX2_chargeOf_108 rfl (lv_at hl 3 rfl) ?_
          refine va_get (D := gD G) (ci := 2) (v := .ref q_b) (C := RX2) (T := TX2) (N := 4) hx hb hts i_X2 hown hB.1 hP 4 rfl rfl 0 (by decide) t_0 (fun _ h9 => h9) rfl dX2_chargeOf_109 ?_
          refine lv_iload_n hx hb dX2_chargeOf_112 rfl (lv_at hl 5 rfl) ?_
          refine lv_iconst (v := 3) hx hb dX2_chargeOf_113 (by decide) ?_
          refine ro_V (ci := 0) (q0 := 0) (As := [.int x2, .int 3]) (rest := [.int ((f_X2_priceOf x2 x3 (f_X2_billedKilos x1 x2 x4 rL bA) bB bP) + ((f_J6_bitCount_0f7a4 (x1 &&& (f_X6_at x2 rG 3))) * (f_X0_carrierNumber x2 5 bA))), .int ((f_X2_priceOf x2 x3 (f_X2_billedKilos x1 x2 x4 rL bA) bB bP) + ((f_J6_bitCount_0f7a4 (x1 &&& (f_X6_at x2 rG 3))) * (f_X0_carrierNumber x2 5 bA)))]) (c_X0_carrierNumber l G q_b q_bA q_bB q_bZ q_bG q_bP q_bQ bC bM bL bD bA x2 3) [0, 1] rfl rfl rfl rfl gX2_chargeOf_X0_carrierNumber ⟨_, rfl⟩ hd_X0_carrierNumber rfl dX2_chargeOf_114 rfl rfl (Nat.le_of_ble_eq_true rfl) ⟨Nat.le_of_ble_eq_true rfl, Nat.le_of_ble_eq_true rfl⟩ ⟨Nat.le_refl 0, Nat.le_refl 0⟩ hx hb hml hown hts hB hS hP hl.1 ?_
          refine W.eq (g2 := F0 m 117 ls [.int (f_X0_carrierNumber x2 3 bA), .int ((f_X2_priceOf x2 x3 (f_X2_billedKilos x1 x2 x4 rL bA) bB bP) + ((f_J6_bitCount_0f7a4 (x1 &&& (f_X6_at x2 rG 3))) * (f_X0_carrierNumber x2 5 bA))), .int ((f_X2_priceOf x2 x3 (f_X2_billedKilos x1 x2 x4 rL bA) bB bP) + ((f_J6_bitCount_0f7a4 (x1 &&& (f_X6_at x2 rG 3))) * (f_X0_carrierNumber x2 5 bA)))]) rfl ?_
          refine lv_imul hx hb dX2_chargeOf_117 ?_
          refine lv_bipush (v := 100) hx hb dX2_chargeOf_118 (by decide) ?_
          refine lv_idiv hx hb dX2_chargeOf_120 (by decide) ?_
          refine lv_iadd hx hb dX2_chargeOf_121 ?_
          exact fi 122 _ (((f_X2_priceOf x2 x3 (f_X2_billedKilos x1 x2 x4 rL bA) bB bP) + ((f_J6_bitCount_0f7a4 (x1 &&& (f_X6_at x2 rG 3))) * (f_X0_carrierNumber x2 5 bA))) + ((((f_X2_priceOf x2 x3 (f_X2_billedKilos x1 x2 x4 rL bA) bB bP) + ((f_J6_bitCount_0f7a4 (x1 &&& (f_X6_at x2 rG 3))) * (f_X0_carrierNumber x2 5 bA))) * (f_X0_carrierNumber x2 3 bA)) / 100)) .int rfl rfl dX2_chargeOf_122 (by rw [f_X2_chargeOf, if_neg c_1, if_pos c_2, if_pos c_3, if_pos c_6])
        · rw [if_neg c_6] at hk
          refine lv_bipush (v := (-5)) hx hb dX2_chargeOf_69 (by decide) ?_
          exact fi 71 _ (-5) .int rfl rfl dX2_chargeOf_71 (by rw [f_X2_chargeOf, if_neg c_1, if_pos c_2, if_pos c_3, if_neg c_6])
      · rw [if_neg c_3] at hk
        refine lv_bipush (v := (-4)) hx hb dX2_chargeOf_45 (by decide) ?_
        exact fi 47 _ (-4) .int rfl rfl dX2_chargeOf_47 (by rw [f_X2_chargeOf, if_neg c_1, if_pos c_2, if_neg c_3])
    · rw [if_neg c_2] at hk
      refine lv_bipush (v := (-3)) hx hb dX2_chargeOf_22 (by decide) ?_
      exact fi 24 _ (-3) .int rfl rfl dX2_chargeOf_24 (by rw [f_X2_chargeOf, if_neg c_1, if_neg c_2])
  · rw [if_pos c_1] at hk
    refine lv_bipush (v := (-2)) hx hb dX2_chargeOf_5 (by decide) ?_
    exact fi 7 _ (-2) .int rfl rfl dX2_chargeOf_7 (by rw [f_X2_chargeOf, if_pos c_1])

noncomputable def f_X2_leastOffer_L5 (x1 : Int32) (x2 : Int32) (rK : Nat → Int32) (rL : Nat → Int32) (rG : Nat → Int32) (bA : Nat → Int32) (bB : Nat → Int32) (bP : Nat → Int32) (bC : Int32) : Nat → Int32 → Int32 → Int32 × Int32
  | 0, v3, v4 => (v3, v4)
  | n + 1, v3, v4 => (if (f_X0_carrierCount bC) ≤ v4 then (v3, v4) else (if (f_X2_chargeOf x1 v4 (f_X2_zoneIn x2 v4) (f_X2_kilosOf x1 rK) rL rG bA bB bP) < 0 then f_X2_leastOffer_L5 x1 x2 rK rL rG bA bB bP bC n v3 (v4 + 1) else (if v3 < 0 then f_X2_leastOffer_L5 x1 x2 rK rL rG bA bB bP bC n (((f_X2_chargeOf x1 v4 (f_X2_zoneIn x2 v4) (f_X2_kilosOf x1 rK) rL rG bA bB bP) * 3) + v4) (v4 + 1) else (if v3 ≤ (((f_X2_chargeOf x1 v4 (f_X2_zoneIn x2 v4) (f_X2_kilosOf x1 rK) rL rG bA bB bP) * 3) + v4) then f_X2_leastOffer_L5 x1 x2 rK rL rG bA bB bP bC n v3 (v4 + 1) else f_X2_leastOffer_L5 x1 x2 rK rL rG bA bB bP bC n (((f_X2_chargeOf x1 v4 (f_X2_zoneIn x2 v4) (f_X2_kilosOf x1 rK) rL rG bA bB bP) * 3) + v4) (v4 + 1)))))
noncomputable def k_X2_leastOffer_L5 (x1 : Int32) (x2 : Int32) (rK : Nat → Int32) (rL : Nat → Int32) (rG : Nat → Int32) (bA : Nat → Int32) (bB : Nat → Int32) (bP : Nat → Int32) (bC : Int32) : Nat → Int32 → Int32 → Prop
  | 0, _, _ => False
  | n + 1, v3, v4 => (if (f_X0_carrierCount bC) ≤ v4 then True else (k_X2_chargeOf x1 v4 (f_X2_zoneIn x2 v4) (f_X2_kilosOf x1 rK) rL rG bA bB bP ∧ (if (f_X2_chargeOf x1 v4 (f_X2_zoneIn x2 v4) (f_X2_kilosOf x1 rK) rL rG bA bB bP) < 0 then k_X2_leastOffer_L5 x1 x2 rK rL rG bA bB bP bC n v3 (v4 + 1) else (if v3 < 0 then k_X2_leastOffer_L5 x1 x2 rK rL rG bA bB bP bC n (((f_X2_chargeOf x1 v4 (f_X2_zoneIn x2 v4) (f_X2_kilosOf x1 rK) rL rG bA bB bP) * 3) + v4) (v4 + 1) else (if v3 ≤ (((f_X2_chargeOf x1 v4 (f_X2_zoneIn x2 v4) (f_X2_kilosOf x1 rK) rL rG bA bB bP) * 3) + v4) then k_X2_leastOffer_L5 x1 x2 rK rL rG bA bB bP bC n v3 (v4 + 1) else k_X2_leastOffer_L5 x1 x2 rK rL rG bA bB bP bC n (((f_X2_chargeOf x1 v4 (f_X2_zoneIn x2 v4) (f_X2_kilosOf x1 rK) rL rG bA bB bP) * 3) + v4) (v4 + 1))))))
noncomputable def f_X2_leastOffer (x1 : Int32) (x2 : Int32) (rK : Nat → Int32) (rL : Nat → Int32) (rG : Nat → Int32) (bA : Nat → Int32) (bB : Nat → Int32) (bP : Nat → Int32) (bC : Int32) : Int32 := ((f_X2_leastOffer_L5 x1 x2 rK rL rG bA bB bP bC FU (-1) 0).1)
noncomputable def k_X2_leastOffer (x1 : Int32) (x2 : Int32) (rK : Nat → Int32) (rL : Nat → Int32) (rG : Nat → Int32) (bA : Nat → Int32) (bB : Nat → Int32) (bP : Nat → Int32) (bC : Int32) : Prop := (k_X2_leastOffer_L5 x1 x2 rK rL rG bA bB bP bC FU (-1) 0 ∧ True)
theorem hd_X2_leastOffer : yX2_leastOffer.cls ≠ "java/lang/invoke/MethodHandle" ∧ yX2_leastOffer.cls ≠ "java/lang/invoke/VarHandle" ∧ (parseMethodDescriptor yX2_leastOffer.desc).map (fun d => d.parameters.length) = some 2 := by decide +kernel
set_option maxHeartbeats 4000000 in
set_option maxRecDepth 100000 in
theorem c_X2_leastOffer (l : Launch) (G : BGT) (q_b q_bA q_bB q_bZ q_bG q_bP q_bQ q_r q_rK q_rL q_rG : Nat) (bC : Int32) (bM : Int32) (bL : Int32) (bD : Int32) (bA : Nat → Int32) (bB : Nat → Int32) (bP : Nat → Int32) (rK : Nat → Int32) (rL : Nat → Int32) (rG : Nat → Int32) (x1 : Int32) (x2 : Int32) (hk : k_X2_leastOffer x1 x2 rK rL rG bA bB bP bC) : RO l yX2_leastOffer wsX2_leastOffer 4 G [oX0 q_b q_bA q_bB q_bZ q_bG q_bP q_bQ bC bM bL bD, aI G q_bA 18 bA, aI G q_bB 60 bB, aI G q_bP 3 bP, oX2 q_r q_b q_rK q_rL q_rG, aI G q_rK 256 rK, aI G q_rL 256 rL, aI G q_rG 3 rG] [.ref q_r, .int x1, .int x2] (some (.int (f_X2_leastOffer x1 x2 rK rL rG bA bB bP bC))) := by
  refine RO.ofW (cc := cX2_leastOffer) (maxL := 7) (ret := (some .int)) (C := RX2) (by decide) rfl rfl (Nat.le_of_ble_eq_true rfl) ?_
  intro p e s m args below meth c Q ls hx hb hml hts hown hP hB hl fi fl fv
  have hS : va_S (fun _ => False) s.heap s.heap [] := va_S.rf
  have hl : lv_has ls 7 [(0, .ref q_r), (1, .int x1), (2, .int x2)] := hl
  have t_0 := hts (.fieldLink RX2 21 "ParcelSplit$Prices" "book" "LParcelSplit$Book;") (by decide +kernel)
  have i_X2 : ∀ w ∈ wsX20, w ∈ wsX2_leastOffer := by decide +kernel
  rw [k_X2_leastOffer] at hk
  refine lv_iconst (v := (-1)) hx hb dX2_leastOffer_0 (by decide) ?_
  refine lv_istore_n (lv' := [(3, .int (-1)), (0, .ref q_r), (1, .int x1), (2, .int x2)]) hx hb dX2_leastOffer_1 rfl hl (by decide) rfl (fun ls hl => ?_)
  refine lv_iconst (v := 0) hx hb dX2_leastOffer_2 (by decide) ?_
  refine lv_istore (lv' := [(4, .int 0), (3, .int (-1)), (0, .ref q_r), (1, .int x1), (2, .int x2)]) hx hb dX2_leastOffer_3 hl (by decide) rfl (fun ls hl => ?_)
  have L5 : ∀ (n : Nat) (v3 : Int32) (v4 : Int32), k_X2_leastOffer_L5 x1 x2 rK rL rG bA bB bP bC n v3 v4 → ∀ (ls : Array Slot), lv_has ls 7 [(0, .ref q_r), (1, .int x1), (2, .int x2), (3, .int v3), (4, .int v4)] → (∀ (ls : Array Slot), lv_has ls 7 [(0, .ref q_r), (1, .int x1), (2, .int x2), (3, .int ((f_X2_leastOffer_L5 x1 x2 rK rL rG bA bB bP bC n v3 v4).1)), (4, .int ((f_X2_leastOffer_L5 x1 x2 rK rL rG bA bB bP bC n v3 v4).2))] → W p l e (rm 4) s m args below meth c s.heap [] 0 0 Q (F0 m 70 ls [])) → W p l e (rm 4) s m args below meth c s.heap [] 0 0 Q (F0 m 5 ls []) := by
    intro n
    induction n with
    | zero => intro v3 v4 hk; exact (hk : False).elim
    | succ n ih =>
      intro v3 v4 hk ls hl kk
      rw [k_X2_leastOffer_L5] at hk
      refine lv_iload hx hb dX2_leastOffer_5 (lv_at hl 4 rfl) ?_
      refine lv_aload_n hx hb dX2_leastOffer_7 rfl (lv_at hl 0 rfl) ?_
      refine va_get (D := gD G) (ci := 2) (v := .ref q_b) (C := RX2) (T := TX2) (N := 4) hx hb hts i_X2 hown hB.1 hP 4 rfl rfl 0 (by decide) t_0 (fun _ h9 => h9) rfl dX2_leastOffer_8 ?_
      refine ro_V (ci := 0) (q0 := 0) (As := []) (rest := [.int v4]) (c_X0_carrierCount l G q_b q_bA q_bB q_bZ q_bG q_bP q_bQ bC bM bL bD) [0] rfl rfl rfl rfl gX2_leastOffer_X0_carrierCount ⟨_, rfl⟩ hd_X0_carrierCount rfl dX2_leastOffer_11 rfl rfl (Nat.le_of_ble_eq_true rfl) ⟨Nat.le_of_ble_eq_true rfl, Nat.le_of_ble_eq_true rfl⟩ ⟨Nat.le_refl 0, Nat.le_refl 0⟩ hx hb hml hown hts hB hS hP hl.1 ?_
      refine W.eq (g2 := F0 m 14 ls [.int (f_X0_carrierCount bC), .int v4]) rfl ?_
      refine lv_icmp_ge (tgt := 70) hx hb dX2_leastOffer_14 (by decide) (fun c_1 => ?_) (fun c_1 => ?_)
      · rw [if_pos c_1] at hk
        have e9 : f_X2_leastOffer_L5 x1 x2 rK rL rG bA bB bP bC (n + 1) v3 v4 = (v3, v4) := by rw [f_X2_leastOffer_L5, if_pos c_1]
        rw [e9] at kk
        exact kk ls (lv_sub hl [0, 1, 2, 3, 4] rfl)
      · rw [if_neg c_1] at hk
        refine lv_aload_n hx hb dX2_leastOffer_17 rfl (lv_at hl 0 rfl) ?_
        refine lv_iload_n hx hb dX2_leastOffer_18 rfl (lv_at hl 1 rfl) ?_
        refine lv_iload hx hb dX2_leastOffer_19 (lv_at hl 4 rfl) ?_
        refine lv_iload_n hx hb dX2_leastOffer_21 rfl (lv_at hl 2 rfl) ?_
        refine lv_iload hx hb dX2_leastOffer_22 (lv_at hl 4 rfl) ?_
        refine ro_S (As := [.int x2, .int v4]) (rest := [.int v4, .int x1, .ref q_r]) (c_X2_zoneIn l G x2 v4) [] rfl gX2_leastOffer_X2_zoneIn ⟨_, rfl⟩ hd_X2_zoneIn dX2_leastOffer_24 rfl rfl (Nat.le_of_ble_eq_true rfl) ⟨Nat.le_of_ble_eq_true rfl, Nat.le_of_ble_eq_true rfl⟩ ⟨Nat.le_refl 0, Nat.le_refl 0⟩ hx hb hml hown hts hB hS hP hl.1 ?_
        refine W.eq (g2 := F0 m 27 ls [.int (f_X2_zoneIn x2 v4), .int v4, .int x1, .ref q_r]) rfl ?_
        refine lv_aload_n hx hb dX2_leastOffer_27 rfl (lv_at hl 0 rfl) ?_
        refine lv_iload_n hx hb dX2_leastOffer_28 rfl (lv_at hl 1 rfl) ?_
        refine ro_V (ci := 2) (q0 := 4) (As := [.int x1]) (rest := [.int (f_X2_zoneIn x2 v4), .int v4, .int x1, .ref q_r]) (c_X2_kilosOf l G q_r q_b q_rK q_rL q_rG rK x1) [4, 5] rfl rfl rfl rfl gX2_leastOffer_X2_kilosOf ⟨_, rfl⟩ hd_X2_kilosOf rfl dX2_leastOffer_29 rfl rfl (Nat.le_of_ble_eq_true rfl) ⟨Nat.le_of_ble_eq_true rfl, Nat.le_of_ble_eq_true rfl⟩ ⟨Nat.le_refl 0, Nat.le_refl 0⟩ hx hb hml hown hts hB hS hP hl.1 ?_
        refine W.eq (g2 := F0 m 32 ls [.int (f_X2_kilosOf x1 rK), .int (f_X2_zoneIn x2 v4), .int v4, .int x1, .ref q_r]) rfl ?_
        obtain ⟨o_2, hk⟩ := hk
        refine ro_V (ci := 2) (q0 := 4) (As := [.int x1, .int v4, .int (f_X2_zoneIn x2 v4), .int (f_X2_kilosOf x1 rK)]) (rest := []) (c_X2_chargeOf l G q_b q_bA q_bB q_bZ q_bG q_bP q_bQ q_r q_rK q_rL q_rG bC bM bL bD bA bB bP rL rG x1 v4 (f_X2_zoneIn x2 v4) (f_X2_kilosOf x1 rK) o_2) [0, 1, 2, 3, 4, 6, 7] rfl rfl rfl rfl gX2_leastOffer_X2_chargeOf ⟨_, rfl⟩ hd_X2_chargeOf rfl dX2_leastOffer_32 rfl rfl (Nat.le_of_ble_eq_true rfl) ⟨Nat.le_of_ble_eq_true rfl, Nat.le_of_ble_eq_true rfl⟩ ⟨Nat.le_refl 0, Nat.le_refl 0⟩ hx hb hml hown hts hB hS hP hl.1 ?_
        refine W.eq (g2 := F0 m 35 ls [.int (f_X2_chargeOf x1 v4 (f_X2_zoneIn x2 v4) (f_X2_kilosOf x1 rK) rL rG bA bB bP)]) rfl ?_
        refine lv_istore (lv' := [(5, .int (f_X2_chargeOf x1 v4 (f_X2_zoneIn x2 v4) (f_X2_kilosOf x1 rK) rL rG bA bB bP)), (0, .ref q_r), (1, .int x1), (2, .int x2), (3, .int v3), (4, .int v4)]) hx hb dX2_leastOffer_35 hl (by decide) rfl (fun ls hl => ?_)
        refine lv_iload hx hb dX2_leastOffer_37 (lv_at hl 0 rfl) ?_
        refine lv_iconst (v := 3) hx hb dX2_leastOffer_39 (by decide) ?_
        refine lv_imul hx hb dX2_leastOffer_40 ?_
        refine lv_iload hx hb dX2_leastOffer_41 (lv_at hl 5 rfl) ?_
        refine lv_iadd hx hb dX2_leastOffer_43 ?_
        refine lv_istore (lv' := [(6, .int (((f_X2_chargeOf x1 v4 (f_X2_zoneIn x2 v4) (f_X2_kilosOf x1 rK) rL rG bA bB bP) * 3) + v4)), (5, .int (f_X2_chargeOf x1 v4 (f_X2_zoneIn x2 v4) (f_X2_kilosOf x1 rK) rL rG bA bB bP)), (0, .ref q_r), (1, .int x1), (2, .int x2), (3, .int v3), (4, .int v4)]) hx hb dX2_leastOffer_44 hl (by decide) rfl (fun ls hl => ?_)
        refine lv_iload hx hb dX2_leastOffer_46 (lv_at hl 1 rfl) ?_
        refine lv_if_lt (tgt := 64) hx hb dX2_leastOffer_48 (by decide) (fun c_3 => ?_) (fun c_3 => ?_)
        · rw [if_pos c_3] at hk
          refine lv_iinc (v := (v4 + 1)) (lv' := [(4, .int (v4 + 1)), (6, .int (((f_X2_chargeOf x1 v4 (f_X2_zoneIn x2 v4) (f_X2_kilosOf x1 rK) rL rG bA bB bP) * 3) + v4)), (5, .int (f_X2_chargeOf x1 v4 (f_X2_zoneIn x2 v4) (f_X2_kilosOf x1 rK) rL rG bA bB bP)), (0, .ref q_r), (1, .int x1), (2, .int x2), (3, .int v3)]) hx hb dX2_leastOffer_64 hl (k := 6) rfl (by rfl) (by decide) rfl (fun ls hl => ?_)
          refine lv_goto (tgt := 5) hx hb dX2_leastOffer_67 (by decide) ?_
          have e9 : f_X2_leastOffer_L5 x1 x2 rK rL rG bA bB bP bC (n + 1) v3 v4 = f_X2_leastOffer_L5 x1 x2 rK rL rG bA bB bP bC n v3 (v4 + 1) := by rw [f_X2_leastOffer_L5, if_neg c_1, if_pos c_3]
          rw [e9] at kk
          exact ih v3 (v4 + 1) hk ls (lv_sub hl [3, 4, 5, 6, 0] rfl) kk
        · rw [if_neg c_3] at hk
          refine lv_iload_n hx hb dX2_leastOffer_51 rfl (lv_at hl 5 rfl) ?_
          refine lv_if_lt (tgt := 61) hx hb dX2_leastOffer_52 (by decide) (fun c_4 => ?_) (fun c_4 => ?_)
          · rw [if_pos c_4] at hk
            refine lv_iload hx hb dX2_leastOffer_61 (lv_at hl 0 rfl) ?_
            refine lv_istore_n (lv' := [(3, .int (((f_X2_chargeOf x1 v4 (f_X2_zoneIn x2 v4) (f_X2_kilosOf x1 rK) rL rG bA bB bP) * 3) + v4)), (6, .int (((f_X2_chargeOf x1 v4 (f_X2_zoneIn x2 v4) (f_X2_kilosOf x1 rK) rL rG bA bB bP) * 3) + v4)), (5, .int (f_X2_chargeOf x1 v4 (f_X2_zoneIn x2 v4) (f_X2_kilosOf x1 rK) rL rG bA bB bP)), (0, .ref q_r), (1, .int x1), (2, .int x2), (4, .int v4)]) hx hb dX2_leastOffer_63 rfl hl (by decide) rfl (fun ls hl => ?_)
            refine lv_iinc (v := (v4 + 1)) (lv' := [(4, .int (v4 + 1)), (3, .int (((f_X2_chargeOf x1 v4 (f_X2_zoneIn x2 v4) (f_X2_kilosOf x1 rK) rL rG bA bB bP) * 3) + v4)), (6, .int (((f_X2_chargeOf x1 v4 (f_X2_zoneIn x2 v4) (f_X2_kilosOf x1 rK) rL rG bA bB bP) * 3) + v4)), (5, .int (f_X2_chargeOf x1 v4 (f_X2_zoneIn x2 v4) (f_X2_kilosOf x1 rK) rL rG bA bB bP)), (0, .ref q_r), (1, .int x1), (2, .int x2)]) hx hb dX2_leastOffer_64 hl (k := 6) rfl (by rfl) (by decide) rfl (fun ls hl => ?_)
            refine lv_goto (tgt := 5) hx hb dX2_leastOffer_67 (by decide) ?_
            have e9 : f_X2_leastOffer_L5 x1 x2 rK rL rG bA bB bP bC (n + 1) v3 v4 = f_X2_leastOffer_L5 x1 x2 rK rL rG bA bB bP bC n (((f_X2_chargeOf x1 v4 (f_X2_zoneIn x2 v4) (f_X2_kilosOf x1 rK) rL rG bA bB bP) * 3) + v4) (v4 + 1) := by rw [f_X2_leastOffer_L5, if_neg c_1, if_neg c_3, if_pos c_4]
            rw [e9] at kk
            exact ih (((f_X2_chargeOf x1 v4 (f_X2_zoneIn x2 v4) (f_X2_kilosOf x1 rK) rL rG bA bB bP) * 3) + v4) (v4 + 1) hk ls (lv_sub hl [4, 5, 6, 1, 0] rfl) kk
          · rw [if_neg c_4] at hk
            refine lv_iload hx hb dX2_leastOffer_55 (lv_at hl 0 rfl) ?_
            refine lv_iload_n hx hb dX2_leastOffer_57 rfl (lv_at hl 5 rfl) ?_
            refine lv_icmp_ge (tgt := 64) hx hb dX2_leastOffer_58 (by decide) (fun c_5 => ?_) (fun c_5 => ?_)
            · rw [if_pos c_5] at hk
              refine lv_iinc (v := (v4 + 1)) (lv' := [(4, .int (v4 + 1)), (6, .int (((f_X2_chargeOf x1 v4 (f_X2_zoneIn x2 v4) (f_X2_kilosOf x1 rK) rL rG bA bB bP) * 3) + v4)), (5, .int (f_X2_chargeOf x1 v4 (f_X2_zoneIn x2 v4) (f_X2_kilosOf x1 rK) rL rG bA bB bP)), (0, .ref q_r), (1, .int x1), (2, .int x2), (3, .int v3)]) hx hb dX2_leastOffer_64 hl (k := 6) rfl (by rfl) (by decide) rfl (fun ls hl => ?_)
              refine lv_goto (tgt := 5) hx hb dX2_leastOffer_67 (by decide) ?_
              have e9 : f_X2_leastOffer_L5 x1 x2 rK rL rG bA bB bP bC (n + 1) v3 v4 = f_X2_leastOffer_L5 x1 x2 rK rL rG bA bB bP bC n v3 (v4 + 1) := by rw [f_X2_leastOffer_L5, if_neg c_1, if_neg c_3, if_neg c_4, if_pos c_5]
              rw [e9] at kk
              exact ih v3 (v4 + 1) hk ls (lv_sub hl [3, 4, 5, 6, 0] rfl) kk
            · rw [if_neg c_5] at hk
              refine lv_iload hx hb dX2_leastOffer_61 (lv_at hl 0 rfl) ?_
              refine lv_istore_n (lv' := [(3, .int (((f_X2_chargeOf x1 v4 (f_X2_zoneIn x2 v4) (f_X2_kilosOf x1 rK) rL rG bA bB bP) * 3) + v4)), (6, .int (((f_X2_chargeOf x1 v4 (f_X2_zoneIn x2 v4) (f_X2_kilosOf x1 rK) rL rG bA bB bP) * 3) + v4)), (5, .int (f_X2_chargeOf x1 v4 (f_X2_zoneIn x2 v4) (f_X2_kilosOf x1 rK) rL rG bA bB bP)), (0, .ref q_r), (1, .int x1), (2, .int x2), (4, .int v4)]) hx hb dX2_leastOffer_63 rfl hl (by decide) rfl (fun ls hl => ?_)
              refine lv_iinc (v := (v4 + 1)) (lv' := [(4, .int (v4 + 1)), (3, .int (((f_X2_chargeOf x1 v4 (f_X2_zoneIn x2 v4) (f_X2_kilosOf x1 rK) rL rG bA bB bP) * 3) + v4)), (6, .int (((f_X2_chargeOf x1 v4 (f_X2_zoneIn x2 v4) (f_X2_kilosOf x1 rK) rL rG bA bB bP) * 3) + v4)), (5, .int (f_X2_chargeOf x1 v4 (f_X2_zoneIn x2 v4) (f_X2_kilosOf x1 rK) rL rG bA bB bP)), (0, .ref q_r), (1, .int x1), (2, .int x2)]) hx hb dX2_leastOffer_64 hl (k := 6) rfl (by rfl) (by decide) rfl (fun ls hl => ?_)
              refine lv_goto (tgt := 5) hx hb dX2_leastOffer_67 (by decide) ?_
              have e9 : f_X2_leastOffer_L5 x1 x2 rK rL rG bA bB bP bC (n + 1) v3 v4 = f_X2_leastOffer_L5 x1 x2 rK rL rG bA bB bP bC n (((f_X2_chargeOf x1 v4 (f_X2_zoneIn x2 v4) (f_X2_kilosOf x1 rK) rL rG bA bB bP) * 3) + v4) (v4 + 1) := by rw [f_X2_leastOffer_L5, if_neg c_1, if_neg c_3, if_neg c_4, if_neg c_5]
              rw [e9] at kk
              exact ih (((f_X2_chargeOf x1 v4 (f_X2_zoneIn x2 v4) (f_X2_kilosOf x1 rK) rL rG bA bB bP) * 3) + v4) (v4 + 1) hk ls (lv_sub hl [4, 5, 6, 1, 0] rfl) kk
  obtain ⟨hkL, hk⟩ := hk
  refine L5 FU (-1) 0 hkL ls (lv_sub hl [2, 3, 4, 1, 0] rfl) (fun ls hl => ?_)
  refine lv_iload_n hx hb dX2_leastOffer_70 rfl (lv_at hl 3 rfl) ?_
  exact fi 71 _ ((f_X2_leastOffer_L5 x1 x2 rK rL rG bA bB bP bC FU (-1) 0).1) .int rfl rfl dX2_leastOffer_71 (by rw [f_X2_leastOffer])

noncomputable def f_X2_boundBy_L6 (x1 : Int32) (x2 : Int32) (x3 : Int32) (bB : Nat → Int32) (bP : Nat → Int32) : Nat → Int32 → Int32 → Int32 × Int32
  | 0, v4, v5 => (v4, v5)
  | n + 1, v4, v5 => (if (f_X0_breakCount x1 bP) ≤ v5 then (v4, v5) else (if v4 < 0 then f_X2_boundBy_L6 x1 x2 x3 bB bP n (f_X2_divideUp (x3 * (f_X0_breakNumber x1 v5 (1 + x2) bB)) (f_X0_breakNumber x1 v5 0 bB)) (v5 + 1) else (if v4 ≤ (f_X2_divideUp (x3 * (f_X0_breakNumber x1 v5 (1 + x2) bB)) (f_X0_breakNumber x1 v5 0 bB)) then f_X2_boundBy_L6 x1 x2 x3 bB bP n v4 (v5 + 1) else f_X2_boundBy_L6 x1 x2 x3 bB bP n (f_X2_divideUp (x3 * (f_X0_breakNumber x1 v5 (1 + x2) bB)) (f_X0_breakNumber x1 v5 0 bB)) (v5 + 1))))
noncomputable def k_X2_boundBy_L6 (x1 : Int32) (x2 : Int32) (x3 : Int32) (bB : Nat → Int32) (bP : Nat → Int32) : Nat → Int32 → Int32 → Prop
  | 0, _, _ => False
  | n + 1, v4, v5 => (if (f_X0_breakCount x1 bP) ≤ v5 then True else (k_X2_divideUp (f_X0_breakNumber x1 v5 0 bB) ∧ (if v4 < 0 then k_X2_boundBy_L6 x1 x2 x3 bB bP n (f_X2_divideUp (x3 * (f_X0_breakNumber x1 v5 (1 + x2) bB)) (f_X0_breakNumber x1 v5 0 bB)) (v5 + 1) else (if v4 ≤ (f_X2_divideUp (x3 * (f_X0_breakNumber x1 v5 (1 + x2) bB)) (f_X0_breakNumber x1 v5 0 bB)) then k_X2_boundBy_L6 x1 x2 x3 bB bP n v4 (v5 + 1) else k_X2_boundBy_L6 x1 x2 x3 bB bP n (f_X2_divideUp (x3 * (f_X0_breakNumber x1 v5 (1 + x2) bB)) (f_X0_breakNumber x1 v5 0 bB)) (v5 + 1)))))
noncomputable def f_X2_boundBy (x1 : Int32) (x2 : Int32) (x3 : Int32) (bB : Nat → Int32) (bP : Nat → Int32) : Int32 := ((f_X2_boundBy_L6 x1 x2 x3 bB bP FU (-1) 0).1)
noncomputable def k_X2_boundBy (x1 : Int32) (x2 : Int32) (x3 : Int32) (bB : Nat → Int32) (bP : Nat → Int32) : Prop := (k_X2_boundBy_L6 x1 x2 x3 bB bP FU (-1) 0 ∧ True)
theorem hd_X2_boundBy : yX2_boundBy.cls ≠ "java/lang/invoke/MethodHandle" ∧ yX2_boundBy.cls ≠ "java/lang/invoke/VarHandle" ∧ (parseMethodDescriptor yX2_boundBy.desc).map (fun d => d.parameters.length) = some 3 := by decide +kernel
set_option maxHeartbeats 4000000 in
set_option maxRecDepth 100000 in
theorem c_X2_boundBy (l : Launch) (G : BGT) (q_b q_bA q_bB q_bZ q_bG q_bP q_bQ q_r q_rK q_rL q_rG : Nat) (bC : Int32) (bM : Int32) (bL : Int32) (bD : Int32) (bB : Nat → Int32) (bP : Nat → Int32) (x1 : Int32) (x2 : Int32) (x3 : Int32) (hk : k_X2_boundBy x1 x2 x3 bB bP) : RO l yX2_boundBy wsX2_boundBy 2 G [oX0 q_b q_bA q_bB q_bZ q_bG q_bP q_bQ bC bM bL bD, aI G q_bB 60 bB, aI G q_bP 3 bP, oX2 q_r q_b q_rK q_rL q_rG] [.ref q_r, .int x1, .int x2, .int x3] (some (.int (f_X2_boundBy x1 x2 x3 bB bP))) := by
  refine RO.ofW (cc := cX2_boundBy) (maxL := 8) (ret := (some .int)) (C := RX2) (by decide) rfl rfl (Nat.le_of_ble_eq_true rfl) ?_
  intro p e s m args below meth c Q ls hx hb hml hts hown hP hB hl fi fl fv
  have hS : va_S (fun _ => False) s.heap s.heap [] := va_S.rf
  have hl : lv_has ls 8 [(0, .ref q_r), (1, .int x1), (2, .int x2), (3, .int x3)] := hl
  have t_0 := hts (.fieldLink RX2 21 "ParcelSplit$Prices" "book" "LParcelSplit$Book;") (by decide +kernel)
  have i_X2 : ∀ w ∈ wsX20, w ∈ wsX2_boundBy := by decide +kernel
  rw [k_X2_boundBy] at hk
  refine lv_iconst (v := (-1)) hx hb dX2_boundBy_0 (by decide) ?_
  refine lv_istore (lv' := [(4, .int (-1)), (0, .ref q_r), (1, .int x1), (2, .int x2), (3, .int x3)]) hx hb dX2_boundBy_1 hl (by decide) rfl (fun ls hl => ?_)
  refine lv_iconst (v := 0) hx hb dX2_boundBy_3 (by decide) ?_
  refine lv_istore (lv' := [(5, .int 0), (4, .int (-1)), (0, .ref q_r), (1, .int x1), (2, .int x2), (3, .int x3)]) hx hb dX2_boundBy_4 hl (by decide) rfl (fun ls hl => ?_)
  have L6 : ∀ (n : Nat) (v4 : Int32) (v5 : Int32), k_X2_boundBy_L6 x1 x2 x3 bB bP n v4 v5 → ∀ (ls : Array Slot), lv_has ls 8 [(0, .ref q_r), (1, .int x1), (2, .int x2), (3, .int x3), (4, .int v4), (5, .int v5)] → (∀ (ls : Array Slot), lv_has ls 8 [(0, .ref q_r), (1, .int x1), (2, .int x2), (3, .int x3), (4, .int ((f_X2_boundBy_L6 x1 x2 x3 bB bP n v4 v5).1)), (5, .int ((f_X2_boundBy_L6 x1 x2 x3 bB bP n v4 v5).2))] → W p l e (rm 2) s m args below meth c s.heap [] 0 0 Q (F0 m 81 ls [])) → W p l e (rm 2) s m args below meth c s.heap [] 0 0 Q (F0 m 6 ls []) := by
    intro n
    induction n with
    | zero => intro v4 v5 hk; exact (hk : False).elim
    | succ n ih =>
      intro v4 v5 hk ls hl kk
      rw [k_X2_boundBy_L6] at hk
      refine lv_iload hx hb dX2_boundBy_6 (lv_at hl 5 rfl) ?_
      refine lv_aload_n hx hb dX2_boundBy_8 rfl (lv_at hl 0 rfl) ?_
      refine va_get (D := gD G) (ci := 2) (v := .ref q_b) (C := RX2) (T := TX2) (N := 4) hx hb hts i_X2 hown hB.1 hP 3 rfl rfl 0 (by decide) t_0 (fun _ h9 => h9) rfl dX2_boundBy_9 ?_
      refine lv_iload_n hx hb dX2_boundBy_12 rfl (lv_at hl 1 rfl) ?_
      refine ro_V (ci := 0) (q0 := 0) (As := [.int x1]) (rest := [.int v5]) (c_X0_breakCount l G q_b q_bA q_bB q_bZ q_bG q_bP q_bQ bC bM bL bD bP x1) [0, 2] rfl rfl rfl rfl gX2_boundBy_X0_breakCount ⟨_, rfl⟩ hd_X0_breakCount rfl dX2_boundBy_13 rfl rfl (Nat.le_of_ble_eq_true rfl) ⟨Nat.le_of_ble_eq_true rfl, Nat.le_of_ble_eq_true rfl⟩ ⟨Nat.le_refl 0, Nat.le_refl 0⟩ hx hb hml hown hts hB hS hP hl.1 ?_
      refine W.eq (g2 := F0 m 16 ls [.int (f_X0_breakCount x1 bP), .int v5]) rfl ?_
      refine lv_icmp_ge (tgt := 81) hx hb dX2_boundBy_16 (by decide) (fun c_1 => ?_) (fun c_1 => ?_)
      · rw [if_pos c_1] at hk
        have e9 : f_X2_boundBy_L6 x1 x2 x3 bB bP (n + 1) v4 v5 = (v4, v5) := by rw [f_X2_boundBy_L6, if_pos c_1]
        rw [e9] at kk
        exact kk ls (lv_sub hl [0, 1, 2, 3, 4, 5] rfl)
      · rw [if_neg c_1] at hk
        refine lv_aload_n hx hb dX2_boundBy_19 rfl (lv_at hl 0 rfl) ?_
        refine va_get (D := gD G) (ci := 2) (v := .ref q_b) (C := RX2) (T := TX2) (N := 4) hx hb hts i_X2 hown hB.1 hP 3 rfl rfl 0 (by decide) t_0 (fun _ h9 => h9) rfl dX2_boundBy_20 ?_
        refine lv_iload_n hx hb dX2_boundBy_23 rfl (lv_at hl 1 rfl) ?_
        refine lv_iload hx hb dX2_boundBy_24 (lv_at hl 5 rfl) ?_
        refine lv_iconst (v := 1) hx hb dX2_boundBy_26 (by decide) ?_
        refine lv_iload_n hx hb dX2_boundBy_27 rfl (lv_at hl 2 rfl) ?_
        refine lv_iadd hx hb dX2_boundBy_28 ?_
        refine ro_V (ci := 0) (q0 := 0) (As := [.int x1, .int v5, .int (1 + x2)]) (rest := []) (c_X0_breakNumber l G q_b q_bA q_bB q_bZ q_bG q_bP q_bQ bC bM bL bD bB x1 v5 (1 + x2)) [0, 1] rfl rfl rfl rfl gX2_boundBy_X0_breakNumber ⟨_, rfl⟩ hd_X0_breakNumber rfl dX2_boundBy_29 rfl rfl (Nat.le_of_ble_eq_true rfl) ⟨Nat.le_of_ble_eq_true rfl, Nat.le_of_ble_eq_true rfl⟩ ⟨Nat.le_refl 0, Nat.le_refl 0⟩ hx hb hml hown hts hB hS hP hl.1 ?_
        refine W.eq (g2 := F0 m 32 ls [.int (f_X0_breakNumber x1 v5 (1 + x2) bB)]) rfl ?_
        refine lv_istore (lv' := [(6, .int (f_X0_breakNumber x1 v5 (1 + x2) bB)), (0, .ref q_r), (1, .int x1), (2, .int x2), (3, .int x3), (4, .int v4), (5, .int v5)]) hx hb dX2_boundBy_32 hl (by decide) rfl (fun ls hl => ?_)
        refine lv_iload_n hx hb dX2_boundBy_34 rfl (lv_at hl 4 rfl) ?_
        refine lv_iload hx hb dX2_boundBy_35 (lv_at hl 0 rfl) ?_
        refine lv_imul hx hb dX2_boundBy_37 ?_
        refine lv_aload_n hx hb dX2_boundBy_38 rfl (lv_at hl 1 rfl) ?_
        refine va_get (D := gD G) (ci := 2) (v := .ref q_b) (C := RX2) (T := TX2) (N := 4) hx hb hts i_X2 hown hB.1 hP 3 rfl rfl 0 (by decide) t_0 (fun _ h9 => h9) rfl dX2_boundBy_39 ?_
        refine lv_iload_n hx hb dX2_boundBy_42 rfl (lv_at hl 2 rfl) ?_
        refine lv_iload hx hb dX2_boundBy_43 (lv_at hl 6 rfl) ?_
        refine lv_iconst (v := 0) hx hb dX2_boundBy_45 (by decide) ?_
        refine ro_V (ci := 0) (q0 := 0) (As := [.int x1, .int v5, .int 0]) (rest := [.int (x3 * (f_X0_breakNumber x1 v5 (1 + x2) bB))]) (c_X0_breakNumber l G q_b q_bA q_bB q_bZ q_bG q_bP q_bQ bC bM bL bD bB x1 v5 0) [0, 1] rfl rfl rfl rfl gX2_boundBy_X0_breakNumber ⟨_, rfl⟩ hd_X0_breakNumber rfl dX2_boundBy_46 rfl rfl (Nat.le_of_ble_eq_true rfl) ⟨Nat.le_of_ble_eq_true rfl, Nat.le_of_ble_eq_true rfl⟩ ⟨Nat.le_refl 0, Nat.le_refl 0⟩ hx hb hml hown hts hB hS hP hl.1 ?_
        refine W.eq (g2 := F0 m 49 ls [.int (f_X0_breakNumber x1 v5 0 bB), .int (x3 * (f_X0_breakNumber x1 v5 (1 + x2) bB))]) rfl ?_
        obtain ⟨o_2, hk⟩ := hk
        refine ro_S (As := [.int (x3 * (f_X0_breakNumber x1 v5 (1 + x2) bB)), .int (f_X0_breakNumber x1 v5 0 bB)]) (rest := []) (c_X2_divideUp l G (x3 * (f_X0_breakNumber x1 v5 (1 + x2) bB)) (f_X0_breakNumber x1 v5 0 bB) o_2) [] rfl gX2_boundBy_X2_divideUp ⟨_, rfl⟩ hd_X2_divideUp dX2_boundBy_49 rfl rfl (Nat.le_of_ble_eq_true rfl) ⟨Nat.le_of_ble_eq_true rfl, Nat.le_of_ble_eq_true rfl⟩ ⟨Nat.le_refl 0, Nat.le_refl 0⟩ hx hb hml hown hts hB hS hP hl.1 ?_
        refine W.eq (g2 := F0 m 52 ls [.int (f_X2_divideUp (x3 * (f_X0_breakNumber x1 v5 (1 + x2) bB)) (f_X0_breakNumber x1 v5 0 bB))]) rfl ?_
        refine lv_istore (lv' := [(7, .int (f_X2_divideUp (x3 * (f_X0_breakNumber x1 v5 (1 + x2) bB)) (f_X0_breakNumber x1 v5 0 bB))), (6, .int (f_X0_breakNumber x1 v5 (1 + x2) bB)), (0, .ref q_r), (1, .int x1), (2, .int x2), (3, .int x3), (4, .int v4), (5, .int v5)]) hx hb dX2_boundBy_52 hl (by decide) rfl (fun ls hl => ?_)
        refine lv_iload hx hb dX2_boundBy_54 (lv_at hl 6 rfl) ?_
        refine lv_if_lt (tgt := 66) hx hb dX2_boundBy_56 (by decide) (fun c_3 => ?_) (fun c_3 => ?_)
        · rw [if_pos c_3] at hk
          refine lv_iload hx hb dX2_boundBy_66 (lv_at hl 0 rfl) ?_
          refine lv_goto (tgt := 73) hx hb dX2_boundBy_68 (by decide) ?_
          refine lv_istore (lv' := [(4, .int (f_X2_divideUp (x3 * (f_X0_breakNumber x1 v5 (1 + x2) bB)) (f_X0_breakNumber x1 v5 0 bB))), (7, .int (f_X2_divideUp (x3 * (f_X0_breakNumber x1 v5 (1 + x2) bB)) (f_X0_breakNumber x1 v5 0 bB))), (6, .int (f_X0_breakNumber x1 v5 (1 + x2) bB)), (0, .ref q_r), (1, .int x1), (2, .int x2), (3, .int x3), (5, .int v5)]) hx hb dX2_boundBy_73 hl (by decide) rfl (fun ls hl => ?_)
          refine lv_iinc (v := (v5 + 1)) (lv' := [(5, .int (v5 + 1)), (4, .int (f_X2_divideUp (x3 * (f_X0_breakNumber x1 v5 (1 + x2) bB)) (f_X0_breakNumber x1 v5 0 bB))), (7, .int (f_X2_divideUp (x3 * (f_X0_breakNumber x1 v5 (1 + x2) bB)) (f_X0_breakNumber x1 v5 0 bB))), (6, .int (f_X0_breakNumber x1 v5 (1 + x2) bB)), (0, .ref q_r), (1, .int x1), (2, .int x2), (3, .int x3)]) hx hb dX2_boundBy_75 hl (k := 7) rfl (by rfl) (by decide) rfl (fun ls hl => ?_)
          refine lv_goto (tgt := 6) hx hb dX2_boundBy_78 (by decide) ?_
          have e9 : f_X2_boundBy_L6 x1 x2 x3 bB bP (n + 1) v4 v5 = f_X2_boundBy_L6 x1 x2 x3 bB bP n (f_X2_divideUp (x3 * (f_X0_breakNumber x1 v5 (1 + x2) bB)) (f_X0_breakNumber x1 v5 0 bB)) (v5 + 1) := by rw [f_X2_boundBy_L6, if_neg c_1, if_pos c_3]
          rw [e9] at kk
          exact ih (f_X2_divideUp (x3 * (f_X0_breakNumber x1 v5 (1 + x2) bB)) (f_X0_breakNumber x1 v5 0 bB)) (v5 + 1) hk ls (lv_sub hl [4, 5, 6, 7, 1, 0] rfl) kk
        · rw [if_neg c_3] at hk
          refine lv_iload hx hb dX2_boundBy_59 (lv_at hl 0 rfl) ?_
          refine lv_iload hx hb dX2_boundBy_61 (lv_at hl 6 rfl) ?_
          refine lv_icmp_ge (tgt := 71) hx hb dX2_boundBy_63 (by decide) (fun c_4 => ?_) (fun c_4 => ?_)
          · rw [if_pos c_4] at hk
            refine lv_iload hx hb dX2_boundBy_71 (lv_at hl 6 rfl) ?_
            refine lv_istore (lv' := [(4, .int v4), (7, .int (f_X2_divideUp (x3 * (f_X0_breakNumber x1 v5 (1 + x2) bB)) (f_X0_breakNumber x1 v5 0 bB))), (6, .int (f_X0_breakNumber x1 v5 (1 + x2) bB)), (0, .ref q_r), (1, .int x1), (2, .int x2), (3, .int x3), (5, .int v5)]) hx hb dX2_boundBy_73 hl (by decide) rfl (fun ls hl => ?_)
            refine lv_iinc (v := (v5 + 1)) (lv' := [(5, .int (v5 + 1)), (4, .int v4), (7, .int (f_X2_divideUp (x3 * (f_X0_breakNumber x1 v5 (1 + x2) bB)) (f_X0_breakNumber x1 v5 0 bB))), (6, .int (f_X0_breakNumber x1 v5 (1 + x2) bB)), (0, .ref q_r), (1, .int x1), (2, .int x2), (3, .int x3)]) hx hb dX2_boundBy_75 hl (k := 7) rfl (by rfl) (by decide) rfl (fun ls hl => ?_)
            refine lv_goto (tgt := 6) hx hb dX2_boundBy_78 (by decide) ?_
            have e9 : f_X2_boundBy_L6 x1 x2 x3 bB bP (n + 1) v4 v5 = f_X2_boundBy_L6 x1 x2 x3 bB bP n v4 (v5 + 1) := by rw [f_X2_boundBy_L6, if_neg c_1, if_neg c_3, if_pos c_4]
            rw [e9] at kk
            exact ih v4 (v5 + 1) hk ls (lv_sub hl [4, 5, 6, 7, 1, 0] rfl) kk
          · rw [if_neg c_4] at hk
            refine lv_iload hx hb dX2_boundBy_66 (lv_at hl 0 rfl) ?_
            refine lv_goto (tgt := 73) hx hb dX2_boundBy_68 (by decide) ?_
            refine lv_istore (lv' := [(4, .int (f_X2_divideUp (x3 * (f_X0_breakNumber x1 v5 (1 + x2) bB)) (f_X0_breakNumber x1 v5 0 bB))), (7, .int (f_X2_divideUp (x3 * (f_X0_breakNumber x1 v5 (1 + x2) bB)) (f_X0_breakNumber x1 v5 0 bB))), (6, .int (f_X0_breakNumber x1 v5 (1 + x2) bB)), (0, .ref q_r), (1, .int x1), (2, .int x2), (3, .int x3), (5, .int v5)]) hx hb dX2_boundBy_73 hl (by decide) rfl (fun ls hl => ?_)
            refine lv_iinc (v := (v5 + 1)) (lv' := [(5, .int (v5 + 1)), (4, .int (f_X2_divideUp (x3 * (f_X0_breakNumber x1 v5 (1 + x2) bB)) (f_X0_breakNumber x1 v5 0 bB))), (7, .int (f_X2_divideUp (x3 * (f_X0_breakNumber x1 v5 (1 + x2) bB)) (f_X0_breakNumber x1 v5 0 bB))), (6, .int (f_X0_breakNumber x1 v5 (1 + x2) bB)), (0, .ref q_r), (1, .int x1), (2, .int x2), (3, .int x3)]) hx hb dX2_boundBy_75 hl (k := 7) rfl (by rfl) (by decide) rfl (fun ls hl => ?_)
            refine lv_goto (tgt := 6) hx hb dX2_boundBy_78 (by decide) ?_
            have e9 : f_X2_boundBy_L6 x1 x2 x3 bB bP (n + 1) v4 v5 = f_X2_boundBy_L6 x1 x2 x3 bB bP n (f_X2_divideUp (x3 * (f_X0_breakNumber x1 v5 (1 + x2) bB)) (f_X0_breakNumber x1 v5 0 bB)) (v5 + 1) := by rw [f_X2_boundBy_L6, if_neg c_1, if_neg c_3, if_neg c_4]
            rw [e9] at kk
            exact ih (f_X2_divideUp (x3 * (f_X0_breakNumber x1 v5 (1 + x2) bB)) (f_X0_breakNumber x1 v5 0 bB)) (v5 + 1) hk ls (lv_sub hl [4, 5, 6, 7, 1, 0] rfl) kk
  obtain ⟨hkL, hk⟩ := hk
  refine L6 FU (-1) 0 hkL ls (lv_sub hl [2, 3, 4, 5, 1, 0] rfl) (fun ls hl => ?_)
  refine lv_iload hx hb dX2_boundBy_81 (lv_at hl 4 rfl) ?_
  exact fi 83 _ ((f_X2_boundBy_L6 x1 x2 x3 bB bP FU (-1) 0).1) .int rfl rfl dX2_boundBy_83 (by rw [f_X2_boundBy])
