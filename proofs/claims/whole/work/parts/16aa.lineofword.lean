noncomputable def f_X3_lineOfWord (tB : Nat → Int32) (tN : Int32) (eS : Int32) (eE : Int32) : Int32 := (if (f_X3_isWord tB tN eS eE 0) = 0 then (if (f_X3_isWord tB tN eS eE 1) = 0 then (if (f_X3_isWord tB tN eS eE 2) = 0 then (if (f_X3_isWord tB tN eS eE 3) = 0 then (if (f_X3_isWord tB tN eS eE 4) = 0 then (-1) else 4) else 3) else 2) else 1) else 0)
noncomputable def k_X3_lineOfWord (tB : Nat → Int32) (tN : Int32) (eS : Int32) (eE : Int32) : Prop := (k_X3_isWord tB tN eS eE 0 ∧ (if (f_X3_isWord tB tN eS eE 0) = 0 then (k_X3_isWord tB tN eS eE 1 ∧ (if (f_X3_isWord tB tN eS eE 1) = 0 then (k_X3_isWord tB tN eS eE 2 ∧ (if (f_X3_isWord tB tN eS eE 2) = 0 then (k_X3_isWord tB tN eS eE 3 ∧ (if (f_X3_isWord tB tN eS eE 3) = 0 then (k_X3_isWord tB tN eS eE 4 ∧ True) else True)) else True)) else True)) else True))
theorem hd_X3_lineOfWord : yX3_lineOfWord.cls ≠ "java/lang/invoke/MethodHandle" ∧ yX3_lineOfWord.cls ≠ "java/lang/invoke/VarHandle" ∧ (parseMethodDescriptor yX3_lineOfWord.desc).map (fun d => d.parameters.length) = some 0 := by decide +kernel
set_option maxHeartbeats 4000000 in
set_option maxRecDepth 100000 in
theorem c_X3_lineOfWord (l : Launch) (G : BGT) (q_t q_tB q_e q_d q_eN : Nat) (tN : Int32) (tB : Nat → Int32) (eF : Int32) (eK : Int32) (eS : Int32) (eE : Int32) (eU : Int32) (hk : k_X3_lineOfWord tB tN eS eE) : RO l yX3_lineOfWord wsX3_lineOfWord 5 G [oX5 q_t q_tB tN, aB G q_tB 740 tB, oX3 q_e q_t q_d q_eN eF eK eS eE eU] [.ref q_e] (some (.int (f_X3_lineOfWord tB tN eS eE))) := by
  refine RO.ofW (cc := cX3_lineOfWord) (maxL := 1) (ret := (some .int)) (C := RX3) (by decide) rfl rfl (Nat.le_of_ble_eq_true rfl) ?_
  intro p e s m args below meth c Q ls hx hb hml hts hown hP hB hl fi fl fv
  have hS : va_S (fun _ => False) s.heap s.heap [] := va_S.rf
  have hl : lv_has ls 1 [(0, .ref q_e)] := hl
  rw [k_X3_lineOfWord] at hk
  refine lv_aload_n hx hb dX3_lineOfWord_0 rfl (lv_at hl 0 rfl) ?_
  refine va_ldcS (own := RX3) (index := 122) (q := gK G 0) hx hb hown (show vk_R RX3 122 "carrier" (gK G 0) s from hB.2.2.2.1 0 (RX3, 122, "carrier") rfl) dX3_lineOfWord_1 ?_
  obtain ⟨o_1, hk⟩ := hk
  refine ro_V (ci := 3) (q0 := 2) (As := [.ref (gK G 0)]) (rest := []) (c_X3_isWord l G 0 (by decide) q_t q_tB q_e q_d q_eN tN tB eF eK eS eE eU o_1) [0, 1, 2] rfl rfl rfl rfl gX3_lineOfWord_X3_isWord ⟨_, rfl⟩ hd_X3_isWord rfl dX3_lineOfWord_3 rfl rfl (Nat.le_of_ble_eq_true rfl) ⟨Nat.le_of_ble_eq_true rfl, Nat.le_of_ble_eq_true rfl⟩ ⟨Nat.le_refl 0, Nat.le_refl 0⟩ hx hb hml hown hts hB hS hP hl.1 ?_
  refine W.eq (g2 := F0 m 6 ls [.int (f_X3_isWord tB tN eS eE 0)]) rfl ?_
  refine lv_if_eq (tgt := 11) hx hb dX3_lineOfWord_6 (by decide) (fun c_2 => ?_) (fun c_2 => ?_)
  · rw [if_pos c_2] at hk
    refine lv_aload_n hx hb dX3_lineOfWord_11 rfl (lv_at hl 0 rfl) ?_
    refine va_ldcS (own := RX3) (index := 128) (q := gK G 1) hx hb hown (show vk_R RX3 128 "break" (gK G 1) s from hB.2.2.2.1 1 (RX3, 128, "break") rfl) dX3_lineOfWord_12 ?_
    obtain ⟨o_3, hk⟩ := hk
    refine ro_V (ci := 3) (q0 := 2) (As := [.ref (gK G 1)]) (rest := []) (c_X3_isWord l G 1 (by decide) q_t q_tB q_e q_d q_eN tN tB eF eK eS eE eU o_3) [0, 1, 2] rfl rfl rfl rfl gX3_lineOfWord_X3_isWord ⟨_, rfl⟩ hd_X3_isWord rfl dX3_lineOfWord_14 rfl rfl (Nat.le_of_ble_eq_true rfl) ⟨Nat.le_of_ble_eq_true rfl, Nat.le_of_ble_eq_true rfl⟩ ⟨Nat.le_refl 0, Nat.le_refl 0⟩ hx hb hml hown hts hB hS hP hl.1 ?_
    refine W.eq (g2 := F0 m 17 ls [.int (f_X3_isWord tB tN eS eE 1)]) rfl ?_
    refine lv_if_eq (tgt := 22) hx hb dX3_lineOfWord_17 (by decide) (fun c_4 => ?_) (fun c_4 => ?_)
    · rw [if_pos c_4] at hk
      refine lv_aload_n hx hb dX3_lineOfWord_22 rfl (lv_at hl 0 rfl) ?_
      refine va_ldcS (own := RX3) (index := 130) (q := gK G 2) hx hb hown (show vk_R RX3 130 "zones" (gK G 2) s from hB.2.2.2.1 2 (RX3, 130, "zones") rfl) dX3_lineOfWord_23 ?_
      obtain ⟨o_5, hk⟩ := hk
      refine ro_V (ci := 3) (q0 := 2) (As := [.ref (gK G 2)]) (rest := []) (c_X3_isWord l G 2 (by decide) q_t q_tB q_e q_d q_eN tN tB eF eK eS eE eU o_5) [0, 1, 2] rfl rfl rfl rfl gX3_lineOfWord_X3_isWord ⟨_, rfl⟩ hd_X3_isWord rfl dX3_lineOfWord_25 rfl rfl (Nat.le_of_ble_eq_true rfl) ⟨Nat.le_of_ble_eq_true rfl, Nat.le_of_ble_eq_true rfl⟩ ⟨Nat.le_refl 0, Nat.le_refl 0⟩ hx hb hml hown hts hB hS hP hl.1 ?_
      refine W.eq (g2 := F0 m 28 ls [.int (f_X3_isWord tB tN eS eE 2)]) rfl ?_
      refine lv_if_eq (tgt := 33) hx hb dX3_lineOfWord_28 (by decide) (fun c_6 => ?_) (fun c_6 => ?_)
      · rw [if_pos c_6] at hk
        refine lv_aload_n hx hb dX3_lineOfWord_33 rfl (lv_at hl 0 rfl) ?_
        refine va_ldcS (own := RX3) (index := 132) (q := gK G 3) hx hb hown (show vk_R RX3 132 "good" (gK G 3) s from hB.2.2.2.1 3 (RX3, 132, "good") rfl) dX3_lineOfWord_34 ?_
        obtain ⟨o_7, hk⟩ := hk
        refine ro_V (ci := 3) (q0 := 2) (As := [.ref (gK G 3)]) (rest := []) (c_X3_isWord l G 3 (by decide) q_t q_tB q_e q_d q_eN tN tB eF eK eS eE eU o_7) [0, 1, 2] rfl rfl rfl rfl gX3_lineOfWord_X3_isWord ⟨_, rfl⟩ hd_X3_isWord rfl dX3_lineOfWord_36 rfl rfl (Nat.le_of_ble_eq_true rfl) ⟨Nat.le_of_ble_eq_true rfl, Nat.le_of_ble_eq_true rfl⟩ ⟨Nat.le_refl 0, Nat.le_refl 0⟩ hx hb hml hown hts hB hS hP hl.1 ?_
        refine W.eq (g2 := F0 m 39 ls [.int (f_X3_isWord tB tN eS eE 3)]) rfl ?_
        refine lv_if_eq (tgt := 44) hx hb dX3_lineOfWord_39 (by decide) (fun c_8 => ?_) (fun c_8 => ?_)
        · rw [if_pos c_8] at hk
          refine lv_aload_n hx hb dX3_lineOfWord_44 rfl (lv_at hl 0 rfl) ?_
          refine va_ldcS (own := RX3) (index := 134) (q := gK G 4) hx hb hown (show vk_R RX3 134 "order" (gK G 4) s from hB.2.2.2.1 4 (RX3, 134, "order") rfl) dX3_lineOfWord_45 ?_
          obtain ⟨o_9, hk⟩ := hk
          refine ro_V (ci := 3) (q0 := 2) (As := [.ref (gK G 4)]) (rest := []) (c_X3_isWord l G 4 (by decide) q_t q_tB q_e q_d q_eN tN tB eF eK eS eE eU o_9) [0, 1, 2] rfl rfl rfl rfl gX3_lineOfWord_X3_isWord ⟨_, rfl⟩ hd_X3_isWord rfl dX3_lineOfWord_47 rfl rfl (Nat.le_of_ble_eq_true rfl) ⟨Nat.le_of_ble_eq_true rfl, Nat.le_of_ble_eq_true rfl⟩ ⟨Nat.le_refl 0, Nat.le_refl 0⟩ hx hb hml hown hts hB hS hP hl.1 ?_
          refine W.eq (g2 := F0 m 50 ls [.int (f_X3_isWord tB tN eS eE 4)]) rfl ?_
          refine lv_if_eq (tgt := 57) hx hb dX3_lineOfWord_50 (by decide) (fun c_10 => ?_) (fun c_10 => ?_)
          · refine lv_iconst (v := (-1)) hx hb dX3_lineOfWord_57 (by decide) ?_
            exact fi 58 _ (-1) .int rfl rfl dX3_lineOfWord_58 (by rw [f_X3_lineOfWord, if_pos c_2, if_pos c_4, if_pos c_6, if_pos c_8, if_pos c_10])
          · refine lv_iconst (v := 4) hx hb dX3_lineOfWord_53 (by decide) ?_
            refine lv_goto (tgt := 58) hx hb dX3_lineOfWord_54 (by decide) ?_
            exact fi 58 _ 4 .int rfl rfl dX3_lineOfWord_58 (by rw [f_X3_lineOfWord, if_pos c_2, if_pos c_4, if_pos c_6, if_pos c_8, if_neg c_10])
        · rw [if_neg c_8] at hk
          refine lv_iconst (v := 3) hx hb dX3_lineOfWord_42 (by decide) ?_
          exact fi 43 _ 3 .int rfl rfl dX3_lineOfWord_43 (by rw [f_X3_lineOfWord, if_pos c_2, if_pos c_4, if_pos c_6, if_neg c_8])
      · rw [if_neg c_6] at hk
        refine lv_iconst (v := 2) hx hb dX3_lineOfWord_31 (by decide) ?_
        exact fi 32 _ 2 .int rfl rfl dX3_lineOfWord_32 (by rw [f_X3_lineOfWord, if_pos c_2, if_pos c_4, if_neg c_6])
    · rw [if_neg c_4] at hk
      refine lv_iconst (v := 1) hx hb dX3_lineOfWord_20 (by decide) ?_
      exact fi 21 _ 1 .int rfl rfl dX3_lineOfWord_21 (by rw [f_X3_lineOfWord, if_pos c_2, if_neg c_4])
  · rw [if_neg c_2] at hk
    refine lv_iconst (v := 0) hx hb dX3_lineOfWord_9 (by decide) ?_
    exact fi 10 _ 0 .int rfl rfl dX3_lineOfWord_10 (by rw [f_X3_lineOfWord, if_neg c_2])
