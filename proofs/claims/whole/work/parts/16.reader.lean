noncomputable def f_X3_isBlank (x0 : Int32) : Int32 := (if x0 = 32 then 1 else (if x0 = 10 then 1 else 0))
theorem hd_X3_isBlank : yX3_isBlank.cls ≠ "java/lang/invoke/MethodHandle" ∧ yX3_isBlank.cls ≠ "java/lang/invoke/VarHandle" ∧ (parseMethodDescriptor yX3_isBlank.desc).map (fun d => d.parameters.length) = some 1 := by decide +kernel
set_option maxHeartbeats 4000000 in
set_option maxRecDepth 100000 in
theorem c_X3_isBlank (l : Launch) (G : BGT) (x0 : Int32) : RO l yX3_isBlank wsX3_isBlank 0 G [] [.int x0] (some (.int (f_X3_isBlank x0))) := by
  refine RO.ofW (cc := cX3_isBlank) (maxL := 1) (ret := (some .boolean)) (C := RX3) (by decide) rfl rfl (Nat.le_of_ble_eq_true rfl) ?_
  intro p e s m args below meth c Q ls hx hb hml hts hown hP hB hl fi fl fv
  have hS : va_S (fun _ => False) s.heap s.heap [] := va_S.rf
  have hl : lv_has ls 1 [(0, .int x0)] := hl
  refine lv_iload_n hx hb dX3_isBlank_0 rfl (lv_at hl 0 rfl) ?_
  refine lv_bipush (v := 32) hx hb dX3_isBlank_1 (by decide) ?_
  refine lv_icmp_eq (tgt := 12) hx hb dX3_isBlank_3 (by decide) (fun c_1 => ?_) (fun c_1 => ?_)
  · refine lv_iconst (v := 1) hx hb dX3_isBlank_12 (by decide) ?_
    refine lv_goto (tgt := 17) hx hb dX3_isBlank_13 (by decide) ?_
    exact fi 17 _ 1 .boolean rfl rfl dX3_isBlank_17 (by rw [f_X3_isBlank, if_pos c_1])
  · refine lv_iload_n hx hb dX3_isBlank_6 rfl (lv_at hl 0 rfl) ?_
    refine lv_bipush (v := 10) hx hb dX3_isBlank_7 (by decide) ?_
    refine lv_icmp_ne (tgt := 16) hx hb dX3_isBlank_9 (by decide) (fun c_2 => ?_) (fun c_2 => ?_)
    · refine lv_iconst (v := 0) hx hb dX3_isBlank_16 (by decide) ?_
      exact fi 17 _ 0 .boolean rfl rfl dX3_isBlank_17 (by rw [f_X3_isBlank, if_neg c_1, if_neg c_2])
    · refine lv_iconst (v := 1) hx hb dX3_isBlank_12 (by decide) ?_
      refine lv_goto (tgt := 17) hx hb dX3_isBlank_13 (by decide) ?_
      exact fi 17 _ 1 .boolean rfl rfl dX3_isBlank_17 (by rw [f_X3_isBlank, if_neg c_1, if_pos c_2])

noncomputable def f_X3_isLetter (x0 : Int32) : Int32 := (if x0 < 97 then 0 else (if 122 < x0 then 0 else 1))
theorem hd_X3_isLetter : yX3_isLetter.cls ≠ "java/lang/invoke/MethodHandle" ∧ yX3_isLetter.cls ≠ "java/lang/invoke/VarHandle" ∧ (parseMethodDescriptor yX3_isLetter.desc).map (fun d => d.parameters.length) = some 1 := by decide +kernel
set_option maxHeartbeats 4000000 in
set_option maxRecDepth 100000 in
theorem c_X3_isLetter (l : Launch) (G : BGT) (x0 : Int32) : RO l yX3_isLetter wsX3_isLetter 0 G [] [.int x0] (some (.int (f_X3_isLetter x0))) := by
  refine RO.ofW (cc := cX3_isLetter) (maxL := 1) (ret := (some .boolean)) (C := RX3) (by decide) rfl rfl (Nat.le_of_ble_eq_true rfl) ?_
  intro p e s m args below meth c Q ls hx hb hml hts hown hP hB hl fi fl fv
  have hS : va_S (fun _ => False) s.heap s.heap [] := va_S.rf
  have hl : lv_has ls 1 [(0, .int x0)] := hl
  refine lv_iload_n hx hb dX3_isLetter_0 rfl (lv_at hl 0 rfl) ?_
  refine lv_bipush (v := 97) hx hb dX3_isLetter_1 (by decide) ?_
  refine lv_icmp_lt (tgt := 16) hx hb dX3_isLetter_3 (by decide) (fun c_1 => ?_) (fun c_1 => ?_)
  · refine lv_iconst (v := 0) hx hb dX3_isLetter_16 (by decide) ?_
    exact fi 17 _ 0 .boolean rfl rfl dX3_isLetter_17 (by rw [f_X3_isLetter, if_pos c_1])
  · refine lv_iload_n hx hb dX3_isLetter_6 rfl (lv_at hl 0 rfl) ?_
    refine lv_bipush (v := 122) hx hb dX3_isLetter_7 (by decide) ?_
    refine lv_icmp_gt (tgt := 16) hx hb dX3_isLetter_9 (by decide) (fun c_2 => ?_) (fun c_2 => ?_)
    · refine lv_iconst (v := 0) hx hb dX3_isLetter_16 (by decide) ?_
      exact fi 17 _ 0 .boolean rfl rfl dX3_isLetter_17 (by rw [f_X3_isLetter, if_neg c_1, if_pos c_2])
    · refine lv_iconst (v := 1) hx hb dX3_isLetter_12 (by decide) ?_
      refine lv_goto (tgt := 17) hx hb dX3_isLetter_13 (by decide) ?_
      exact fi 17 _ 1 .boolean rfl rfl dX3_isLetter_17 (by rw [f_X3_isLetter, if_neg c_1, if_neg c_2])

noncomputable def f_X3_isDigit (x0 : Int32) : Int32 := (if x0 < 48 then 0 else (if 57 < x0 then 0 else 1))
theorem hd_X3_isDigit : yX3_isDigit.cls ≠ "java/lang/invoke/MethodHandle" ∧ yX3_isDigit.cls ≠ "java/lang/invoke/VarHandle" ∧ (parseMethodDescriptor yX3_isDigit.desc).map (fun d => d.parameters.length) = some 1 := by decide +kernel
set_option maxHeartbeats 4000000 in
set_option maxRecDepth 100000 in
theorem c_X3_isDigit (l : Launch) (G : BGT) (x0 : Int32) : RO l yX3_isDigit wsX3_isDigit 0 G [] [.int x0] (some (.int (f_X3_isDigit x0))) := by
  refine RO.ofW (cc := cX3_isDigit) (maxL := 1) (ret := (some .boolean)) (C := RX3) (by decide) rfl rfl (Nat.le_of_ble_eq_true rfl) ?_
  intro p e s m args below meth c Q ls hx hb hml hts hown hP hB hl fi fl fv
  have hS : va_S (fun _ => False) s.heap s.heap [] := va_S.rf
  have hl : lv_has ls 1 [(0, .int x0)] := hl
  refine lv_iload_n hx hb dX3_isDigit_0 rfl (lv_at hl 0 rfl) ?_
  refine lv_bipush (v := 48) hx hb dX3_isDigit_1 (by decide) ?_
  refine lv_icmp_lt (tgt := 16) hx hb dX3_isDigit_3 (by decide) (fun c_1 => ?_) (fun c_1 => ?_)
  · refine lv_iconst (v := 0) hx hb dX3_isDigit_16 (by decide) ?_
    exact fi 17 _ 0 .boolean rfl rfl dX3_isDigit_17 (by rw [f_X3_isDigit, if_pos c_1])
  · refine lv_iload_n hx hb dX3_isDigit_6 rfl (lv_at hl 0 rfl) ?_
    refine lv_bipush (v := 57) hx hb dX3_isDigit_7 (by decide) ?_
    refine lv_icmp_gt (tgt := 16) hx hb dX3_isDigit_9 (by decide) (fun c_2 => ?_) (fun c_2 => ?_)
    · refine lv_iconst (v := 0) hx hb dX3_isDigit_16 (by decide) ?_
      exact fi 17 _ 0 .boolean rfl rfl dX3_isDigit_17 (by rw [f_X3_isDigit, if_neg c_1, if_pos c_2])
    · refine lv_iconst (v := 1) hx hb dX3_isDigit_12 (by decide) ?_
      refine lv_goto (tgt := 17) hx hb dX3_isDigit_13 (by decide) ?_
      exact fi 17 _ 1 .boolean rfl rfl dX3_isDigit_17 (by rw [f_X3_isDigit, if_neg c_1, if_neg c_2])

noncomputable def f_X3_mayFollow (x0 : Int32) (x1 : Int32) : Int32 := (if x1 = 0 then (if x0 = 1 then 1 else 0) else (if x1 = 1 then (if x0 = 1 then 1 else (if x0 = 2 then 1 else 0)) else (if x1 = 2 then (if x0 = 1 then 0 else 1) else (if x1 = 3 then (if x0 = 3 then 1 else (if x0 = 4 then 1 else 0)) else (if x1 = 4 then 0 else (if x1 = 5 then (if x0 = 0 then 1 else 0) else 0))))))
theorem hd_X3_mayFollow : yX3_mayFollow.cls ≠ "java/lang/invoke/MethodHandle" ∧ yX3_mayFollow.cls ≠ "java/lang/invoke/VarHandle" ∧ (parseMethodDescriptor yX3_mayFollow.desc).map (fun d => d.parameters.length) = some 2 := by decide +kernel
set_option maxHeartbeats 4000000 in
set_option maxRecDepth 100000 in
theorem c_X3_mayFollow (l : Launch) (G : BGT) (x0 : Int32) (x1 : Int32) : RO l yX3_mayFollow wsX3_mayFollow 0 G [] [.int x0, .int x1] (some (.int (f_X3_mayFollow x0 x1))) := by
  refine RO.ofW (cc := cX3_mayFollow) (maxL := 2) (ret := (some .boolean)) (C := RX3) (by decide) rfl rfl (Nat.le_of_ble_eq_true rfl) ?_
  intro p e s m args below meth c Q ls hx hb hml hts hown hP hB hl fi fl fv
  have hS : va_S (fun _ => False) s.heap s.heap [] := va_S.rf
  have hl : lv_has ls 2 [(0, .int x0), (1, .int x1)] := hl
  refine lv_iload_n hx hb dX3_mayFollow_0 rfl (lv_at hl 1 rfl) ?_
  by_cases c_1 : x1 = 0
  · refine lv_tableIn (tgt := 50) (off := 49) hx hb dX3_mayFollow_1 (by rw [c_1]; decide) (by rw [c_1]; decide) (by rw [c_1]; rfl) (by decide) ?_
    refine lv_iload_n hx hb dX3_mayFollow_50 rfl (lv_at hl 0 rfl) ?_
    refine lv_iconst (v := 1) hx hb dX3_mayFollow_51 (by decide) ?_
    refine lv_icmp_ne (tgt := 59) hx hb dX3_mayFollow_52 (by decide) (fun c_2 => ?_) (fun c_2 => ?_)
    · refine lv_iconst (v := 0) hx hb dX3_mayFollow_59 (by decide) ?_
      exact fi 60 _ 0 .boolean rfl rfl dX3_mayFollow_60 (by rw [f_X3_mayFollow, if_pos c_1, if_neg c_2])
    · refine lv_iconst (v := 1) hx hb dX3_mayFollow_55 (by decide) ?_
      refine lv_goto (tgt := 60) hx hb dX3_mayFollow_56 (by decide) ?_
      exact fi 60 _ 1 .boolean rfl rfl dX3_mayFollow_60 (by rw [f_X3_mayFollow, if_pos c_1, if_pos c_2])
  · by_cases c_3 : x1 = 1
    · refine lv_tableIn (tgt := 61) (off := 60) hx hb dX3_mayFollow_1 (by rw [c_3]; decide) (by rw [c_3]; decide) (by rw [c_3]; rfl) (by decide) ?_
      refine lv_iload_n hx hb dX3_mayFollow_61 rfl (lv_at hl 0 rfl) ?_
      refine lv_iconst (v := 1) hx hb dX3_mayFollow_62 (by decide) ?_
      refine lv_icmp_eq (tgt := 71) hx hb dX3_mayFollow_63 (by decide) (fun c_4 => ?_) (fun c_4 => ?_)
      · refine lv_iconst (v := 1) hx hb dX3_mayFollow_71 (by decide) ?_
        refine lv_goto (tgt := 76) hx hb dX3_mayFollow_72 (by decide) ?_
        exact fi 76 _ 1 .boolean rfl rfl dX3_mayFollow_76 (by rw [f_X3_mayFollow, if_neg c_1, if_pos c_3, if_pos c_4])
      · refine lv_iload_n hx hb dX3_mayFollow_66 rfl (lv_at hl 0 rfl) ?_
        refine lv_iconst (v := 2) hx hb dX3_mayFollow_67 (by decide) ?_
        refine lv_icmp_ne (tgt := 75) hx hb dX3_mayFollow_68 (by decide) (fun c_5 => ?_) (fun c_5 => ?_)
        · refine lv_iconst (v := 0) hx hb dX3_mayFollow_75 (by decide) ?_
          exact fi 76 _ 0 .boolean rfl rfl dX3_mayFollow_76 (by rw [f_X3_mayFollow, if_neg c_1, if_pos c_3, if_neg c_4, if_neg c_5])
        · refine lv_iconst (v := 1) hx hb dX3_mayFollow_71 (by decide) ?_
          refine lv_goto (tgt := 76) hx hb dX3_mayFollow_72 (by decide) ?_
          exact fi 76 _ 1 .boolean rfl rfl dX3_mayFollow_76 (by rw [f_X3_mayFollow, if_neg c_1, if_pos c_3, if_neg c_4, if_pos c_5])
    · by_cases c_6 : x1 = 2
      · refine lv_tableIn (tgt := 77) (off := 76) hx hb dX3_mayFollow_1 (by rw [c_6]; decide) (by rw [c_6]; decide) (by rw [c_6]; rfl) (by decide) ?_
        refine lv_iload_n hx hb dX3_mayFollow_77 rfl (lv_at hl 0 rfl) ?_
        refine lv_iconst (v := 1) hx hb dX3_mayFollow_78 (by decide) ?_
        refine lv_icmp_eq (tgt := 86) hx hb dX3_mayFollow_79 (by decide) (fun c_7 => ?_) (fun c_7 => ?_)
        · refine lv_iconst (v := 0) hx hb dX3_mayFollow_86 (by decide) ?_
          exact fi 87 _ 0 .boolean rfl rfl dX3_mayFollow_87 (by rw [f_X3_mayFollow, if_neg c_1, if_neg c_3, if_pos c_6, if_pos c_7])
        · refine lv_iconst (v := 1) hx hb dX3_mayFollow_82 (by decide) ?_
          refine lv_goto (tgt := 87) hx hb dX3_mayFollow_83 (by decide) ?_
          exact fi 87 _ 1 .boolean rfl rfl dX3_mayFollow_87 (by rw [f_X3_mayFollow, if_neg c_1, if_neg c_3, if_pos c_6, if_neg c_7])
      · by_cases c_8 : x1 = 3
        · refine lv_tableIn (tgt := 88) (off := 87) hx hb dX3_mayFollow_1 (by rw [c_8]; decide) (by rw [c_8]; decide) (by rw [c_8]; rfl) (by decide) ?_
          refine lv_iload_n hx hb dX3_mayFollow_88 rfl (lv_at hl 0 rfl) ?_
          refine lv_iconst (v := 3) hx hb dX3_mayFollow_89 (by decide) ?_
          refine lv_icmp_eq (tgt := 98) hx hb dX3_mayFollow_90 (by decide) (fun c_9 => ?_) (fun c_9 => ?_)
          · refine lv_iconst (v := 1) hx hb dX3_mayFollow_98 (by decide) ?_
            refine lv_goto (tgt := 103) hx hb dX3_mayFollow_99 (by decide) ?_
            exact fi 103 _ 1 .boolean rfl rfl dX3_mayFollow_103 (by rw [f_X3_mayFollow, if_neg c_1, if_neg c_3, if_neg c_6, if_pos c_8, if_pos c_9])
          · refine lv_iload_n hx hb dX3_mayFollow_93 rfl (lv_at hl 0 rfl) ?_
            refine lv_iconst (v := 4) hx hb dX3_mayFollow_94 (by decide) ?_
            refine lv_icmp_ne (tgt := 102) hx hb dX3_mayFollow_95 (by decide) (fun c_10 => ?_) (fun c_10 => ?_)
            · refine lv_iconst (v := 0) hx hb dX3_mayFollow_102 (by decide) ?_
              exact fi 103 _ 0 .boolean rfl rfl dX3_mayFollow_103 (by rw [f_X3_mayFollow, if_neg c_1, if_neg c_3, if_neg c_6, if_pos c_8, if_neg c_9, if_neg c_10])
            · refine lv_iconst (v := 1) hx hb dX3_mayFollow_98 (by decide) ?_
              refine lv_goto (tgt := 103) hx hb dX3_mayFollow_99 (by decide) ?_
              exact fi 103 _ 1 .boolean rfl rfl dX3_mayFollow_103 (by rw [f_X3_mayFollow, if_neg c_1, if_neg c_3, if_neg c_6, if_pos c_8, if_neg c_9, if_pos c_10])
        · by_cases c_11 : x1 = 4
          · refine lv_tableIn (tgt := 104) (off := 103) hx hb dX3_mayFollow_1 (by rw [c_11]; decide) (by rw [c_11]; decide) (by rw [c_11]; rfl) (by decide) ?_
            refine lv_iconst (v := 0) hx hb dX3_mayFollow_104 (by decide) ?_
            exact fi 105 _ 0 .boolean rfl rfl dX3_mayFollow_105 (by rw [f_X3_mayFollow, if_neg c_1, if_neg c_3, if_neg c_6, if_neg c_8, if_pos c_11])
          · by_cases c_12 : x1 = 5
            · refine lv_tableIn (tgt := 40) (off := 39) hx hb dX3_mayFollow_1 (by rw [c_12]; decide) (by rw [c_12]; decide) (by rw [c_12]; rfl) (by decide) ?_
              refine lv_iload_n hx hb dX3_mayFollow_40 rfl (lv_at hl 0 rfl) ?_
              refine lv_if_ne (tgt := 48) hx hb dX3_mayFollow_41 (by decide) (fun c_13 => ?_) (fun c_13 => ?_)
              · refine lv_iconst (v := 0) hx hb dX3_mayFollow_48 (by decide) ?_
                exact fi 49 _ 0 .boolean rfl rfl dX3_mayFollow_49 (by rw [f_X3_mayFollow, if_neg c_1, if_neg c_3, if_neg c_6, if_neg c_8, if_neg c_11, if_pos c_12, if_neg c_13])
              · refine lv_iconst (v := 1) hx hb dX3_mayFollow_44 (by decide) ?_
                refine lv_goto (tgt := 49) hx hb dX3_mayFollow_45 (by decide) ?_
                exact fi 49 _ 1 .boolean rfl rfl dX3_mayFollow_49 (by rw [f_X3_mayFollow, if_neg c_1, if_neg c_3, if_neg c_6, if_neg c_8, if_neg c_11, if_pos c_12, if_pos c_13])
            · refine lv_tableOut (tgt := 104) hx hb dX3_mayFollow_1 (sw_out 0 5 (fun k h1 h2 => by have h3 : k = 0 ∨ k = 1 ∨ k = 2 ∨ k = 3 ∨ k = 4 ∨ k = 5 := (by omega); rcases h3 with rfl | rfl | rfl | rfl | rfl | rfl; exact c_1; exact c_3; exact c_6; exact c_8; exact c_11; exact c_12)) (by decide) ?_
              refine lv_iconst (v := 0) hx hb dX3_mayFollow_104 (by decide) ?_
              exact fi 105 _ 0 .boolean rfl rfl dX3_mayFollow_105 (by rw [f_X3_mayFollow, if_neg c_1, if_neg c_3, if_neg c_6, if_neg c_8, if_neg c_11, if_neg c_12])

noncomputable def f_X3_faultKind (eF : Int32) : Int32 := eF
theorem hd_X3_faultKind : yX3_faultKind.cls ≠ "java/lang/invoke/MethodHandle" ∧ yX3_faultKind.cls ≠ "java/lang/invoke/VarHandle" ∧ (parseMethodDescriptor yX3_faultKind.desc).map (fun d => d.parameters.length) = some 0 := by decide +kernel
set_option maxHeartbeats 4000000 in
set_option maxRecDepth 100000 in
theorem c_X3_faultKind (l : Launch) (G : BGT) (q_e q_t q_d q_eN : Nat) (eF : Int32) (eK : Int32) (eS : Int32) (eE : Int32) (eU : Int32) : RO l yX3_faultKind wsX3_faultKind 0 G [oX3 q_e q_t q_d q_eN eF eK eS eE eU] [.ref q_e] (some (.int (f_X3_faultKind eF))) := by
  refine RO.ofW (cc := cX3_faultKind) (maxL := 1) (ret := (some .int)) (C := RX3) (by decide) rfl rfl (Nat.le_of_ble_eq_true rfl) ?_
  intro p e s m args below meth c Q ls hx hb hml hts hown hP hB hl fi fl fv
  have hS : va_S (fun _ => False) s.heap s.heap [] := va_S.rf
  have hl : lv_has ls 1 [(0, .ref q_e)] := hl
  have t_0 := hts (.fieldLink RX3 23 "ParcelSplit$Reader" "faultKind" "I") (by decide +kernel)
  have i_X3 : ∀ w ∈ wsX30, w ∈ wsX3_faultKind := by decide +kernel
  refine lv_aload_n hx hb dX3_faultKind_0 rfl (lv_at hl 0 rfl) ?_
  refine va_get (D := gD G) (ci := 3) (v := .int eF) (C := RX3) (T := TX3) (N := 8) hx hb hts i_X3 hown hB.1 hP 0 rfl rfl 3 (by decide) t_0 (fun _ h9 => h9) rfl dX3_faultKind_1 ?_
  exact fi 4 _ eF .int rfl rfl dX3_faultKind_4 (by rw [f_X3_faultKind])

noncomputable def f_X3_fails (x1 : Int32) : Int32 × Int32 := (0, x1)
theorem hd_X3_fails : yX3_fails.cls ≠ "java/lang/invoke/MethodHandle" ∧ yX3_fails.cls ≠ "java/lang/invoke/VarHandle" ∧ (parseMethodDescriptor yX3_fails.desc).map (fun d => d.parameters.length) = some 1 := by decide +kernel
set_option maxHeartbeats 4000000 in
set_option maxRecDepth 100000 in
theorem c_X3_fails (l : Launch) (G : BGT) (q_e q_t q_d q_eN : Nat) (eF : Int32) (eK : Int32) (eS : Int32) (eE : Int32) (eU : Int32) (x1 : Int32) : WR l yX3_fails wsX3_fails 0 G [oX3 q_e q_t q_d q_eN eF eK eS eE eU] [oX3 q_e q_t q_d q_eN ((f_X3_fails x1).2) eK eS eE eU] [.ref q_e, .int x1] (some (.int ((f_X3_fails x1).1))) := by
  refine WR.ofW (cc := cX3_fails) (maxL := 2) (ret := (some .boolean)) (C := RX3) (by decide) rfl rfl (Nat.le_of_ble_eq_true rfl) ?_
  intro p e s m args below meth c Q ls A hx hb hml hts hown hP hD hS hA hB hl fi fv
  have hl : lv_has ls 2 [(0, .ref q_e), (1, .int x1)] := hl
  have t_0 := hts (.fieldLink RX3 23 "ParcelSplit$Reader" "faultKind" "I") (by decide +kernel)
  have i_X3 : ∀ w ∈ wsX30, w ∈ wsX3_fails := by decide +kernel
  refine lv_aload_n hx hb dX3_fails_0 rfl (lv_at hl 0 rfl) ?_
  refine lv_iload_n hx hb dX3_fails_1 rfl (lv_at hl 1 rfl) ?_
  refine va_put (D := gD G) (ci := 3) (v := .int x1) (ty := .int) (C := RX3) (T := TX3) (N := 8) hx hb hts i_X3 tyX3 tyX3_ok nmX3 hown hB.1 hP hD hS 0 rfl rfl 3 (by decide) t_0 (fun _ h9 => h9) rfl (by decide +kernel) rfl rfl (Nat.le_of_ble_eq_true rfl) dX3_fails_2 (fun H locs hP hD hS => ?_)
  have hP : va_P (gD G) vwCl [oX3 q_e q_t q_d q_eN x1 eK eS eE eU] H := hP
  have hD : va_D A [oX3 q_e q_t q_d q_eN x1 eK eS eE eU] := hD
  refine lv_iconst (v := 0) hx hb dX3_fails_5 (by decide) ?_
  have e9 : f_X3_fails x1 = (0, x1) := by rw [f_X3_fails]
  exact fi 6 _ 0 .boolean _ _ rfl rfl dX3_fails_6 (by simp only [e9]) (by rw [e9]; exact hP) (by rw [e9]; exact hD) hS

noncomputable def f_X3_scanRun_L7 (tB : Nat → Int32) (tN : Int32) : Nat → Int32 → Int32 → Int32 → Int32 × Int32 × Int32
  | 0, v1, w_eE, w_eU => (v1, w_eE, w_eU)
  | n + 1, v1, w_eE, w_eU => (if (f_X5_size tN) ≤ w_eE then (v1, w_eE, w_eU) else (if (f_X3_isLetter (f_X5_byteAt w_eE tB tN)) = 0 then (if (f_X3_isDigit (f_X5_byteAt w_eE tB tN)) = 0 then (v1, w_eE, w_eU) else (if (f_X3_isDigit (f_X5_byteAt w_eE tB tN)) = 0 then f_X3_scanRun_L7 tB tN n v1 (w_eE + 1) w_eU else (if 3 < (v1 + 1) then f_X3_scanRun_L7 tB tN n (v1 + 1) (w_eE + 1) w_eU else f_X3_scanRun_L7 tB tN n (v1 + 1) (w_eE + 1) (((w_eU * 10) + (f_X5_byteAt w_eE tB tN)) - 48)))) else (if (f_X3_isDigit (f_X5_byteAt w_eE tB tN)) = 0 then f_X3_scanRun_L7 tB tN n v1 (w_eE + 1) w_eU else (if 3 < (v1 + 1) then f_X3_scanRun_L7 tB tN n (v1 + 1) (w_eE + 1) w_eU else f_X3_scanRun_L7 tB tN n (v1 + 1) (w_eE + 1) (((w_eU * 10) + (f_X5_byteAt w_eE tB tN)) - 48)))))
noncomputable def k_X3_scanRun_L7 (tB : Nat → Int32) (tN : Int32) : Nat → Int32 → Int32 → Int32 → Prop
  | 0, _, _, _ => False
  | n + 1, v1, w_eE, w_eU => (if (f_X5_size tN) ≤ w_eE then True else (if (f_X3_isLetter (f_X5_byteAt w_eE tB tN)) = 0 then (if (f_X3_isDigit (f_X5_byteAt w_eE tB tN)) = 0 then True else (if (f_X3_isDigit (f_X5_byteAt w_eE tB tN)) = 0 then k_X3_scanRun_L7 tB tN n v1 (w_eE + 1) w_eU else (if 3 < (v1 + 1) then k_X3_scanRun_L7 tB tN n (v1 + 1) (w_eE + 1) w_eU else k_X3_scanRun_L7 tB tN n (v1 + 1) (w_eE + 1) (((w_eU * 10) + (f_X5_byteAt w_eE tB tN)) - 48)))) else (if (f_X3_isDigit (f_X5_byteAt w_eE tB tN)) = 0 then k_X3_scanRun_L7 tB tN n v1 (w_eE + 1) w_eU else (if 3 < (v1 + 1) then k_X3_scanRun_L7 tB tN n (v1 + 1) (w_eE + 1) w_eU else k_X3_scanRun_L7 tB tN n (v1 + 1) (w_eE + 1) (((w_eU * 10) + (f_X5_byteAt w_eE tB tN)) - 48)))))
noncomputable def f_X3_scanRun (tB : Nat → Int32) (tN : Int32) (eS : Int32) (eE : Int32) : Int32 × Int32 × Int32 := (if ((f_X3_scanRun_L7 tB tN FU 0 eE 0).1) = 0 then (2, ((f_X3_scanRun_L7 tB tN FU 0 eE 0).2.1), ((f_X3_scanRun_L7 tB tN FU 0 eE 0).2.2)) else (if ((f_X3_scanRun_L7 tB tN FU 0 eE 0).1) = (((f_X3_scanRun_L7 tB tN FU 0 eE 0).2.1) - eS) then (if 3 < ((f_X3_scanRun_L7 tB tN FU 0 eE 0).1) then (0, ((f_X3_scanRun_L7 tB tN FU 0 eE 0).2.1), ((f_X3_scanRun_L7 tB tN FU 0 eE 0).2.2)) else (3, ((f_X3_scanRun_L7 tB tN FU 0 eE 0).2.1), ((f_X3_scanRun_L7 tB tN FU 0 eE 0).2.2))) else (0, ((f_X3_scanRun_L7 tB tN FU 0 eE 0).2.1), ((f_X3_scanRun_L7 tB tN FU 0 eE 0).2.2))))
noncomputable def k_X3_scanRun (tB : Nat → Int32) (tN : Int32) (eE : Int32) : Prop := (k_X3_scanRun_L7 tB tN FU 0 eE 0 ∧ True)
theorem hd_X3_scanRun : yX3_scanRun.cls ≠ "java/lang/invoke/MethodHandle" ∧ yX3_scanRun.cls ≠ "java/lang/invoke/VarHandle" ∧ (parseMethodDescriptor yX3_scanRun.desc).map (fun d => d.parameters.length) = some 0 := by decide +kernel
set_option maxHeartbeats 4000000 in
set_option maxRecDepth 100000 in
theorem c_X3_scanRun (l : Launch) (G : BGT) (q_t q_tB q_e q_d q_eN : Nat) (tN : Int32) (tB : Nat → Int32) (eF : Int32) (eK : Int32) (eS : Int32) (eE : Int32) (eU : Int32) (hk : k_X3_scanRun tB tN eE) : WR l yX3_scanRun wsX3_scanRun 1 G [oX5 q_t q_tB tN, aB G q_tB 740 tB, oX3 q_e q_t q_d q_eN eF eK eS eE eU] [oX5 q_t q_tB tN, aB G q_tB 740 tB, oX3 q_e q_t q_d q_eN eF ((f_X3_scanRun tB tN eS eE).1) eS ((f_X3_scanRun tB tN eS eE).2.1) ((f_X3_scanRun tB tN eS eE).2.2)] [.ref q_e] none := by
  refine WR.ofW (cc := cX3_scanRun) (maxL := 2) (ret := none) (C := RX3) (by decide) rfl rfl (Nat.le_of_ble_eq_true rfl) ?_
  intro p e s m args below meth c Q ls A hx hb hml hts hown hP hD hS hA hB hl fi fv
  have hl : lv_has ls 2 [(0, .ref q_e)] := hl
  have t_0 := hts (.fieldLink RX3 89 "ParcelSplit$Reader" "number" "I") (by decide +kernel)
  have t_1 := hts (.fieldLink RX3 32 "ParcelSplit$Reader" "end" "I") (by decide +kernel)
  have t_2 := hts (.fieldLink RX3 15 "ParcelSplit$Reader" "tape" "LParcelSplit$Tape;") (by decide +kernel)
  have t_3 := hts (.fieldLink RX3 39 "ParcelSplit$Reader" "start" "I") (by decide +kernel)
  have t_4 := hts (.fieldLink RX3 49 "ParcelSplit$Reader" "kind" "I") (by decide +kernel)
  have i_X3 : ∀ w ∈ wsX30, w ∈ wsX3_scanRun := by decide +kernel
  rw [k_X3_scanRun] at hk
  refine lv_iconst (v := 0) hx hb dX3_scanRun_0 (by decide) ?_
  refine lv_istore_n (lv' := [(1, .int 0), (0, .ref q_e)]) hx hb dX3_scanRun_1 rfl hl (by decide) rfl (fun ls hl => ?_)
  refine lv_aload_n hx hb dX3_scanRun_2 rfl (lv_at hl 1 rfl) ?_
  refine lv_iconst (v := 0) hx hb dX3_scanRun_3 (by decide) ?_
  refine va_put (D := gD G) (ci := 3) (v := .int 0) (ty := .int) (C := RX3) (T := TX3) (N := 8) hx hb hts i_X3 tyX3 tyX3_ok nmX3 hown hB.1 hP hD hS 2 rfl rfl 7 (by decide) t_0 (fun _ h9 => h9) rfl (by decide +kernel) rfl rfl (Nat.le_of_ble_eq_true rfl) dX3_scanRun_4 (fun H locs hP hD hS => ?_)
  have hP : va_P (gD G) vwCl [oX5 q_t q_tB tN, aB G q_tB 740 tB, oX3 q_e q_t q_d q_eN eF eK eS eE 0] H := hP
  have hD : va_D A [oX5 q_t q_tB tN, aB G q_tB 740 tB, oX3 q_e q_t q_d q_eN eF eK eS eE 0] := hD
  have L7 : ∀ (n : Nat) (v1 : Int32) (w_eE : Int32) (w_eU : Int32), k_X3_scanRun_L7 tB tN n v1 w_eE w_eU → ∀ (H : Heap) (locs : List Loc), va_P (gD G) vwCl [oX5 q_t q_tB tN, aB G q_tB 740 tB, oX3 q_e q_t q_d q_eN eF eK eS w_eE w_eU] H → va_D A [oX5 q_t q_tB tN, aB G q_tB 740 tB, oX3 q_e q_t q_d q_eN eF eK eS w_eE w_eU] → va_S A s.heap H locs → ∀ (ls : Array Slot), lv_has ls 2 [(0, .ref q_e), (1, .int v1)] → (∀ (H : Heap) (locs : List Loc), va_P (gD G) vwCl [oX5 q_t q_tB tN, aB G q_tB 740 tB, oX3 q_e q_t q_d q_eN eF eK eS ((f_X3_scanRun_L7 tB tN n v1 w_eE w_eU).2.1) ((f_X3_scanRun_L7 tB tN n v1 w_eE w_eU).2.2)] H → va_D A [oX5 q_t q_tB tN, aB G q_tB 740 tB, oX3 q_e q_t q_d q_eN eF eK eS ((f_X3_scanRun_L7 tB tN n v1 w_eE w_eU).2.1) ((f_X3_scanRun_L7 tB tN n v1 w_eE w_eU).2.2)] → va_S A s.heap H locs → ∀ (ls : Array Slot), lv_has ls 2 [(0, .ref q_e), (1, .int ((f_X3_scanRun_L7 tB tN n v1 w_eE w_eU).1))] → W p l e (rm 1) s m args below meth c H locs 0 0 Q (F0 m 126 ls [])) → W p l e (rm 1) s m args below meth c H locs 0 0 Q (F0 m 7 ls []) := by
    intro n
    induction n with
    | zero => intro v1 w_eE w_eU hk; exact (hk : False).elim
    | succ n ih =>
      intro v1 w_eE w_eU hk H locs hP hD hS ls hl kk
      rw [k_X3_scanRun_L7] at hk
      refine lv_aload_n hx hb dX3_scanRun_7 rfl (lv_at hl 0 rfl) ?_
      refine va_get (D := gD G) (ci := 3) (v := .int w_eE) (C := RX3) (T := TX3) (N := 8) hx hb hts i_X3 hown hB.1 hP 2 rfl rfl 6 (by decide) t_1 (fun _ h9 => h9) rfl dX3_scanRun_8 ?_
      refine lv_aload_n hx hb dX3_scanRun_11 rfl (lv_at hl 0 rfl) ?_
      refine va_get (D := gD G) (ci := 3) (v := .ref q_t) (C := RX3) (T := TX3) (N := 8) hx hb hts i_X3 hown hB.1 hP 2 rfl rfl 0 (by decide) t_2 (fun _ h9 => h9) rfl dX3_scanRun_12 ?_
      refine ro_V (ci := 5) (q0 := 0) (As := []) (rest := [.int w_eE]) (c_X5_size l G q_t q_tB tN) [0] rfl rfl rfl rfl gX3_scanRun_X5_size ⟨_, rfl⟩ hd_X5_size rfl dX3_scanRun_15 rfl rfl (Nat.le_of_ble_eq_true rfl) ⟨Nat.le_of_ble_eq_true rfl, Nat.le_of_ble_eq_true rfl⟩ ⟨Nat.le_refl 0, Nat.le_refl 0⟩ hx hb hml hown hts hB hS hP hl.1 ?_
      refine W.eq (g2 := F0 m 18 ls [.int (f_X5_size tN), .int w_eE]) rfl ?_
      refine lv_icmp_ge (tgt := 126) hx hb dX3_scanRun_18 (by decide) (fun c_1 => ?_) (fun c_1 => ?_)
      · rw [if_pos c_1] at hk
        have e9 : f_X3_scanRun_L7 tB tN (n + 1) v1 w_eE w_eU = (v1, w_eE, w_eU) := by rw [f_X3_scanRun_L7, if_pos c_1]
        rw [e9] at kk
        exact kk _ _ hP hD hS ls (lv_sub hl [0, 1] rfl)
      · rw [if_neg c_1] at hk
        refine lv_aload_n hx hb dX3_scanRun_21 rfl (lv_at hl 0 rfl) ?_
        refine va_get (D := gD G) (ci := 3) (v := .ref q_t) (C := RX3) (T := TX3) (N := 8) hx hb hts i_X3 hown hB.1 hP 2 rfl rfl 0 (by decide) t_2 (fun _ h9 => h9) rfl dX3_scanRun_22 ?_
        refine lv_aload_n hx hb dX3_scanRun_25 rfl (lv_at hl 0 rfl) ?_
        refine va_get (D := gD G) (ci := 3) (v := .int w_eE) (C := RX3) (T := TX3) (N := 8) hx hb hts i_X3 hown hB.1 hP 2 rfl rfl 6 (by decide) t_1 (fun _ h9 => h9) rfl dX3_scanRun_26 ?_
        refine ro_V (ci := 5) (q0 := 0) (As := [.int w_eE]) (rest := []) (c_X5_byteAt l G q_t q_tB tN tB w_eE) [0, 1] rfl rfl rfl rfl gX3_scanRun_X5_byteAt ⟨_, rfl⟩ hd_X5_byteAt rfl dX3_scanRun_29 rfl rfl (Nat.le_of_ble_eq_true rfl) ⟨Nat.le_of_ble_eq_true rfl, Nat.le_of_ble_eq_true rfl⟩ ⟨Nat.le_refl 0, Nat.le_refl 0⟩ hx hb hml hown hts hB hS hP hl.1 ?_
        refine W.eq (g2 := F0 m 32 ls [.int (f_X5_byteAt w_eE tB tN)]) rfl ?_
        refine ro_S (As := [.int (f_X5_byteAt w_eE tB tN)]) (rest := []) (c_X3_isLetter l G (f_X5_byteAt w_eE tB tN)) [] rfl gX3_scanRun_X3_isLetter ⟨_, rfl⟩ hd_X3_isLetter dX3_scanRun_32 rfl rfl (Nat.le_of_ble_eq_true rfl) ⟨Nat.le_of_ble_eq_true rfl, Nat.le_of_ble_eq_true rfl⟩ ⟨Nat.le_refl 0, Nat.le_refl 0⟩ hx hb hml hown hts hB hS hP hl.1 ?_
        refine W.eq (g2 := F0 m 35 ls [.int (f_X3_isLetter (f_X5_byteAt w_eE tB tN))]) rfl ?_
        refine lv_if_ne (tgt := 55) hx hb dX3_scanRun_35 (by decide) (fun c_2 => ?_) (fun c_2 => ?_)
        · rw [if_neg c_2] at hk
          refine lv_aload_n hx hb dX3_scanRun_55 rfl (lv_at hl 0 rfl) ?_
          refine va_get (D := gD G) (ci := 3) (v := .ref q_t) (C := RX3) (T := TX3) (N := 8) hx hb hts i_X3 hown hB.1 hP 2 rfl rfl 0 (by decide) t_2 (fun _ h9 => h9) rfl dX3_scanRun_56 ?_
          refine lv_aload_n hx hb dX3_scanRun_59 rfl (lv_at hl 0 rfl) ?_
          refine va_get (D := gD G) (ci := 3) (v := .int w_eE) (C := RX3) (T := TX3) (N := 8) hx hb hts i_X3 hown hB.1 hP 2 rfl rfl 6 (by decide) t_1 (fun _ h9 => h9) rfl dX3_scanRun_60 ?_
          refine ro_V (ci := 5) (q0 := 0) (As := [.int w_eE]) (rest := []) (c_X5_byteAt l G q_t q_tB tN tB w_eE) [0, 1] rfl rfl rfl rfl gX3_scanRun_X5_byteAt ⟨_, rfl⟩ hd_X5_byteAt rfl dX3_scanRun_63 rfl rfl (Nat.le_of_ble_eq_true rfl) ⟨Nat.le_of_ble_eq_true rfl, Nat.le_of_ble_eq_true rfl⟩ ⟨Nat.le_refl 0, Nat.le_refl 0⟩ hx hb hml hown hts hB hS hP hl.1 ?_
          refine W.eq (g2 := F0 m 66 ls [.int (f_X5_byteAt w_eE tB tN)]) rfl ?_
          refine ro_S (As := [.int (f_X5_byteAt w_eE tB tN)]) (rest := []) (c_X3_isDigit l G (f_X5_byteAt w_eE tB tN)) [] rfl gX3_scanRun_X3_isDigit ⟨_, rfl⟩ hd_X3_isDigit dX3_scanRun_66 rfl rfl (Nat.le_of_ble_eq_true rfl) ⟨Nat.le_of_ble_eq_true rfl, Nat.le_of_ble_eq_true rfl⟩ ⟨Nat.le_refl 0, Nat.le_refl 0⟩ hx hb hml hown hts hB hS hP hl.1 ?_
          refine W.eq (g2 := F0 m 69 ls [.int (f_X3_isDigit (f_X5_byteAt w_eE tB tN))]) rfl ?_
          refine lv_if_eq (tgt := 113) hx hb dX3_scanRun_69 (by decide) (fun c_3 => ?_) (fun c_3 => ?_)
          · rw [if_pos c_3] at hk
            refine lv_aload_n hx hb dX3_scanRun_113 rfl (lv_at hl 0 rfl) ?_
            refine lv_dup hx hb dX3_scanRun_114 rfl ?_
            refine va_get (D := gD G) (ci := 3) (v := .int w_eE) (C := RX3) (T := TX3) (N := 8) hx hb hts i_X3 hown hB.1 hP 2 rfl rfl 6 (by decide) t_1 (fun _ h9 => h9) rfl dX3_scanRun_115 ?_
            refine lv_iconst (v := 1) hx hb dX3_scanRun_118 (by decide) ?_
            refine lv_iadd hx hb dX3_scanRun_119 ?_
            refine va_put (D := gD G) (ci := 3) (v := .int (w_eE + 1)) (ty := .int) (C := RX3) (T := TX3) (N := 8) hx hb hts i_X3 tyX3 tyX3_ok nmX3 hown hB.1 hP hD hS 2 rfl rfl 6 (by decide) t_1 (fun _ h9 => h9) rfl (by decide +kernel) rfl rfl (Nat.le_of_ble_eq_true rfl) dX3_scanRun_120 (fun H locs hP hD hS => ?_)
            have hP : va_P (gD G) vwCl [oX5 q_t q_tB tN, aB G q_tB 740 tB, oX3 q_e q_t q_d q_eN eF eK eS (w_eE + 1) w_eU] H := hP
            have hD : va_D A [oX5 q_t q_tB tN, aB G q_tB 740 tB, oX3 q_e q_t q_d q_eN eF eK eS (w_eE + 1) w_eU] := hD
            refine lv_goto (tgt := 7) hx hb dX3_scanRun_123 (by decide) ?_
            have e9 : f_X3_scanRun_L7 tB tN (n + 1) v1 w_eE w_eU = f_X3_scanRun_L7 tB tN n v1 (w_eE + 1) w_eU := by rw [f_X3_scanRun_L7, if_neg c_1, if_neg c_2, if_pos c_3]
            rw [e9] at kk
            exact ih v1 (w_eE + 1) w_eU hk _ _ hP hD hS ls (lv_sub hl [0, 1] rfl) kk
          · rw [if_neg c_3] at hk
            refine lv_iinc (v := (v1 + 1)) (lv' := [(1, .int (v1 + 1)), (0, .ref q_e)]) hx hb dX3_scanRun_72 hl (k := 1) rfl (by rfl) (by decide) rfl (fun ls hl => ?_)
            refine lv_aload_n hx hb dX3_scanRun_75 rfl (lv_at hl 1 rfl) ?_
            refine lv_iload_n hx hb dX3_scanRun_76 rfl (lv_at hl 0 rfl) ?_
            refine lv_iconst (v := 3) hx hb dX3_scanRun_77 (by decide) ?_
            refine lv_icmp_gt (tgt := 106) hx hb dX3_scanRun_78 (by decide) (fun c_4 => ?_) (fun c_4 => ?_)
            · rw [if_pos c_4] at hk
              refine lv_aload_n hx hb dX3_scanRun_106 rfl (lv_at hl 1 rfl) ?_
              refine va_get (D := gD G) (ci := 3) (v := .int w_eU) (C := RX3) (T := TX3) (N := 8) hx hb hts i_X3 hown hB.1 hP 2 rfl rfl 7 (by decide) t_0 (fun _ h9 => h9) rfl dX3_scanRun_107 ?_
              refine va_put (D := gD G) (ci := 3) (v := .int w_eU) (ty := .int) (C := RX3) (T := TX3) (N := 8) hx hb hts i_X3 tyX3 tyX3_ok nmX3 hown hB.1 hP hD hS 2 rfl rfl 7 (by decide) t_0 (fun _ h9 => h9) rfl (by decide +kernel) rfl rfl (Nat.le_of_ble_eq_true rfl) dX3_scanRun_110 (fun H locs hP hD hS => ?_)
              have hP : va_P (gD G) vwCl [oX5 q_t q_tB tN, aB G q_tB 740 tB, oX3 q_e q_t q_d q_eN eF eK eS w_eE w_eU] H := hP
              have hD : va_D A [oX5 q_t q_tB tN, aB G q_tB 740 tB, oX3 q_e q_t q_d q_eN eF eK eS w_eE w_eU] := hD
              refine lv_aload_n hx hb dX3_scanRun_113 rfl (lv_at hl 1 rfl) ?_
              refine lv_dup hx hb dX3_scanRun_114 rfl ?_
              refine va_get (D := gD G) (ci := 3) (v := .int w_eE) (C := RX3) (T := TX3) (N := 8) hx hb hts i_X3 hown hB.1 hP 2 rfl rfl 6 (by decide) t_1 (fun _ h9 => h9) rfl dX3_scanRun_115 ?_
              refine lv_iconst (v := 1) hx hb dX3_scanRun_118 (by decide) ?_
              refine lv_iadd hx hb dX3_scanRun_119 ?_
              refine va_put (D := gD G) (ci := 3) (v := .int (w_eE + 1)) (ty := .int) (C := RX3) (T := TX3) (N := 8) hx hb hts i_X3 tyX3 tyX3_ok nmX3 hown hB.1 hP hD hS 2 rfl rfl 6 (by decide) t_1 (fun _ h9 => h9) rfl (by decide +kernel) rfl rfl (Nat.le_of_ble_eq_true rfl) dX3_scanRun_120 (fun H locs hP hD hS => ?_)
              have hP : va_P (gD G) vwCl [oX5 q_t q_tB tN, aB G q_tB 740 tB, oX3 q_e q_t q_d q_eN eF eK eS (w_eE + 1) w_eU] H := hP
              have hD : va_D A [oX5 q_t q_tB tN, aB G q_tB 740 tB, oX3 q_e q_t q_d q_eN eF eK eS (w_eE + 1) w_eU] := hD
              refine lv_goto (tgt := 7) hx hb dX3_scanRun_123 (by decide) ?_
              have e9 : f_X3_scanRun_L7 tB tN (n + 1) v1 w_eE w_eU = f_X3_scanRun_L7 tB tN n (v1 + 1) (w_eE + 1) w_eU := by rw [f_X3_scanRun_L7, if_neg c_1, if_neg c_2, if_neg c_3, if_pos c_4]
              rw [e9] at kk
              exact ih (v1 + 1) (w_eE + 1) w_eU hk _ _ hP hD hS ls (lv_sub hl [1, 0] rfl) kk
            · rw [if_neg c_4] at hk
              refine lv_aload_n hx hb dX3_scanRun_81 rfl (lv_at hl 1 rfl) ?_
              refine va_get (D := gD G) (ci := 3) (v := .int w_eU) (C := RX3) (T := TX3) (N := 8) hx hb hts i_X3 hown hB.1 hP 2 rfl rfl 7 (by decide) t_0 (fun _ h9 => h9) rfl dX3_scanRun_82 ?_
              refine lv_bipush (v := 10) hx hb dX3_scanRun_85 (by decide) ?_
              refine lv_imul hx hb dX3_scanRun_87 ?_
              refine lv_aload_n hx hb dX3_scanRun_88 rfl (lv_at hl 1 rfl) ?_
              refine va_get (D := gD G) (ci := 3) (v := .ref q_t) (C := RX3) (T := TX3) (N := 8) hx hb hts i_X3 hown hB.1 hP 2 rfl rfl 0 (by decide) t_2 (fun _ h9 => h9) rfl dX3_scanRun_89 ?_
              refine lv_aload_n hx hb dX3_scanRun_92 rfl (lv_at hl 1 rfl) ?_
              refine va_get (D := gD G) (ci := 3) (v := .int w_eE) (C := RX3) (T := TX3) (N := 8) hx hb hts i_X3 hown hB.1 hP 2 rfl rfl 6 (by decide) t_1 (fun _ h9 => h9) rfl dX3_scanRun_93 ?_
              refine ro_V (ci := 5) (q0 := 0) (As := [.int w_eE]) (rest := [.int (w_eU * 10), .ref q_e]) (c_X5_byteAt l G q_t q_tB tN tB w_eE) [0, 1] rfl rfl rfl rfl gX3_scanRun_X5_byteAt ⟨_, rfl⟩ hd_X5_byteAt rfl dX3_scanRun_96 rfl rfl (Nat.le_of_ble_eq_true rfl) ⟨Nat.le_of_ble_eq_true rfl, Nat.le_of_ble_eq_true rfl⟩ ⟨Nat.le_refl 0, Nat.le_refl 0⟩ hx hb hml hown hts hB hS hP hl.1 ?_
              refine W.eq (g2 := F0 m 99 ls [.int (f_X5_byteAt w_eE tB tN), .int (w_eU * 10), .ref q_e]) rfl ?_
              refine lv_iadd hx hb dX3_scanRun_99 ?_
              refine lv_bipush (v := 48) hx hb dX3_scanRun_100 (by decide) ?_
              refine lv_isub hx hb dX3_scanRun_102 ?_
              refine lv_goto (tgt := 110) hx hb dX3_scanRun_103 (by decide) ?_
              refine va_put (D := gD G) (ci := 3) (v := .int (((w_eU * 10) + (f_X5_byteAt w_eE tB tN)) - 48)) (ty := .int) (C := RX3) (T := TX3) (N := 8) hx hb hts i_X3 tyX3 tyX3_ok nmX3 hown hB.1 hP hD hS 2 rfl rfl 7 (by decide) t_0 (fun _ h9 => h9) rfl (by decide +kernel) rfl rfl (Nat.le_of_ble_eq_true rfl) dX3_scanRun_110 (fun H locs hP hD hS => ?_)
              have hP : va_P (gD G) vwCl [oX5 q_t q_tB tN, aB G q_tB 740 tB, oX3 q_e q_t q_d q_eN eF eK eS w_eE (((w_eU * 10) + (f_X5_byteAt w_eE tB tN)) - 48)] H := hP
              have hD : va_D A [oX5 q_t q_tB tN, aB G q_tB 740 tB, oX3 q_e q_t q_d q_eN eF eK eS w_eE (((w_eU * 10) + (f_X5_byteAt w_eE tB tN)) - 48)] := hD
              refine lv_aload_n hx hb dX3_scanRun_113 rfl (lv_at hl 1 rfl) ?_
              refine lv_dup hx hb dX3_scanRun_114 rfl ?_
              refine va_get (D := gD G) (ci := 3) (v := .int w_eE) (C := RX3) (T := TX3) (N := 8) hx hb hts i_X3 hown hB.1 hP 2 rfl rfl 6 (by decide) t_1 (fun _ h9 => h9) rfl dX3_scanRun_115 ?_
              refine lv_iconst (v := 1) hx hb dX3_scanRun_118 (by decide) ?_
              refine lv_iadd hx hb dX3_scanRun_119 ?_
              refine va_put (D := gD G) (ci := 3) (v := .int (w_eE + 1)) (ty := .int) (C := RX3) (T := TX3) (N := 8) hx hb hts i_X3 tyX3 tyX3_ok nmX3 hown hB.1 hP hD hS 2 rfl rfl 6 (by decide) t_1 (fun _ h9 => h9) rfl (by decide +kernel) rfl rfl (Nat.le_of_ble_eq_true rfl) dX3_scanRun_120 (fun H locs hP hD hS => ?_)
              have hP : va_P (gD G) vwCl [oX5 q_t q_tB tN, aB G q_tB 740 tB, oX3 q_e q_t q_d q_eN eF eK eS (w_eE + 1) (((w_eU * 10) + (f_X5_byteAt w_eE tB tN)) - 48)] H := hP
              have hD : va_D A [oX5 q_t q_tB tN, aB G q_tB 740 tB, oX3 q_e q_t q_d q_eN eF eK eS (w_eE + 1) (((w_eU * 10) + (f_X5_byteAt w_eE tB tN)) - 48)] := hD
              refine lv_goto (tgt := 7) hx hb dX3_scanRun_123 (by decide) ?_
              have e9 : f_X3_scanRun_L7 tB tN (n + 1) v1 w_eE w_eU = f_X3_scanRun_L7 tB tN n (v1 + 1) (w_eE + 1) (((w_eU * 10) + (f_X5_byteAt w_eE tB tN)) - 48) := by rw [f_X3_scanRun_L7, if_neg c_1, if_neg c_2, if_neg c_3, if_neg c_4]
              rw [e9] at kk
              exact ih (v1 + 1) (w_eE + 1) (((w_eU * 10) + (f_X5_byteAt w_eE tB tN)) - 48) hk _ _ hP hD hS ls (lv_sub hl [1, 0] rfl) kk
        · rw [if_pos c_2] at hk
          refine lv_aload_n hx hb dX3_scanRun_38 rfl (lv_at hl 0 rfl) ?_
          refine va_get (D := gD G) (ci := 3) (v := .ref q_t) (C := RX3) (T := TX3) (N := 8) hx hb hts i_X3 hown hB.1 hP 2 rfl rfl 0 (by decide) t_2 (fun _ h9 => h9) rfl dX3_scanRun_39 ?_
          refine lv_aload_n hx hb dX3_scanRun_42 rfl (lv_at hl 0 rfl) ?_
          refine va_get (D := gD G) (ci := 3) (v := .int w_eE) (C := RX3) (T := TX3) (N := 8) hx hb hts i_X3 hown hB.1 hP 2 rfl rfl 6 (by decide) t_1 (fun _ h9 => h9) rfl dX3_scanRun_43 ?_
          refine ro_V (ci := 5) (q0 := 0) (As := [.int w_eE]) (rest := []) (c_X5_byteAt l G q_t q_tB tN tB w_eE) [0, 1] rfl rfl rfl rfl gX3_scanRun_X5_byteAt ⟨_, rfl⟩ hd_X5_byteAt rfl dX3_scanRun_46 rfl rfl (Nat.le_of_ble_eq_true rfl) ⟨Nat.le_of_ble_eq_true rfl, Nat.le_of_ble_eq_true rfl⟩ ⟨Nat.le_refl 0, Nat.le_refl 0⟩ hx hb hml hown hts hB hS hP hl.1 ?_
          refine W.eq (g2 := F0 m 49 ls [.int (f_X5_byteAt w_eE tB tN)]) rfl ?_
          refine ro_S (As := [.int (f_X5_byteAt w_eE tB tN)]) (rest := []) (c_X3_isDigit l G (f_X5_byteAt w_eE tB tN)) [] rfl gX3_scanRun_X3_isDigit ⟨_, rfl⟩ hd_X3_isDigit dX3_scanRun_49 rfl rfl (Nat.le_of_ble_eq_true rfl) ⟨Nat.le_of_ble_eq_true rfl, Nat.le_of_ble_eq_true rfl⟩ ⟨Nat.le_refl 0, Nat.le_refl 0⟩ hx hb hml hown hts hB hS hP hl.1 ?_
          refine W.eq (g2 := F0 m 52 ls [.int (f_X3_isDigit (f_X5_byteAt w_eE tB tN))]) rfl ?_
          refine lv_if_eq (tgt := 126) hx hb dX3_scanRun_52 (by decide) (fun c_5 => ?_) (fun c_5 => ?_)
          · rw [if_pos c_5] at hk
            have e9 : f_X3_scanRun_L7 tB tN (n + 1) v1 w_eE w_eU = (v1, w_eE, w_eU) := by rw [f_X3_scanRun_L7, if_neg c_1, if_pos c_2, if_pos c_5]
            rw [e9] at kk
            exact kk _ _ hP hD hS ls (lv_sub hl [0, 1] rfl)
          · rw [if_neg c_5] at hk
            refine lv_aload_n hx hb dX3_scanRun_55 rfl (lv_at hl 0 rfl) ?_
            refine va_get (D := gD G) (ci := 3) (v := .ref q_t) (C := RX3) (T := TX3) (N := 8) hx hb hts i_X3 hown hB.1 hP 2 rfl rfl 0 (by decide) t_2 (fun _ h9 => h9) rfl dX3_scanRun_56 ?_
            refine lv_aload_n hx hb dX3_scanRun_59 rfl (lv_at hl 0 rfl) ?_
            refine va_get (D := gD G) (ci := 3) (v := .int w_eE) (C := RX3) (T := TX3) (N := 8) hx hb hts i_X3 hown hB.1 hP 2 rfl rfl 6 (by decide) t_1 (fun _ h9 => h9) rfl dX3_scanRun_60 ?_
            refine ro_V (ci := 5) (q0 := 0) (As := [.int w_eE]) (rest := []) (c_X5_byteAt l G q_t q_tB tN tB w_eE) [0, 1] rfl rfl rfl rfl gX3_scanRun_X5_byteAt ⟨_, rfl⟩ hd_X5_byteAt rfl dX3_scanRun_63 rfl rfl (Nat.le_of_ble_eq_true rfl) ⟨Nat.le_of_ble_eq_true rfl, Nat.le_of_ble_eq_true rfl⟩ ⟨Nat.le_refl 0, Nat.le_refl 0⟩ hx hb hml hown hts hB hS hP hl.1 ?_
            refine W.eq (g2 := F0 m 66 ls [.int (f_X5_byteAt w_eE tB tN)]) rfl ?_
            refine ro_S (As := [.int (f_X5_byteAt w_eE tB tN)]) (rest := []) (c_X3_isDigit l G (f_X5_byteAt w_eE tB tN)) [] rfl gX3_scanRun_X3_isDigit ⟨_, rfl⟩ hd_X3_isDigit dX3_scanRun_66 rfl rfl (Nat.le_of_ble_eq_true rfl) ⟨Nat.le_of_ble_eq_true rfl, Nat.le_of_ble_eq_true rfl⟩ ⟨Nat.le_refl 0, Nat.le_refl 0⟩ hx hb hml hown hts hB hS hP hl.1 ?_
            refine W.eq (g2 := F0 m 69 ls [.int (f_X3_isDigit (f_X5_byteAt w_eE tB tN))]) rfl ?_
            refine lv_if_eq (tgt := 113) hx hb dX3_scanRun_69 (by decide) (fun c_6 => ?_) (fun c_6 => ?_)
            · rw [if_pos c_6] at hk
              refine lv_aload_n hx hb dX3_scanRun_113 rfl (lv_at hl 0 rfl) ?_
              refine lv_dup hx hb dX3_scanRun_114 rfl ?_
              refine va_get (D := gD G) (ci := 3) (v := .int w_eE) (C := RX3) (T := TX3) (N := 8) hx hb hts i_X3 hown hB.1 hP 2 rfl rfl 6 (by decide) t_1 (fun _ h9 => h9) rfl dX3_scanRun_115 ?_
              refine lv_iconst (v := 1) hx hb dX3_scanRun_118 (by decide) ?_
              refine lv_iadd hx hb dX3_scanRun_119 ?_
              refine va_put (D := gD G) (ci := 3) (v := .int (w_eE + 1)) (ty := .int) (C := RX3) (T := TX3) (N := 8) hx hb hts i_X3 tyX3 tyX3_ok nmX3 hown hB.1 hP hD hS 2 rfl rfl 6 (by decide) t_1 (fun _ h9 => h9) rfl (by decide +kernel) rfl rfl (Nat.le_of_ble_eq_true rfl) dX3_scanRun_120 (fun H locs hP hD hS => ?_)
              have hP : va_P (gD G) vwCl [oX5 q_t q_tB tN, aB G q_tB 740 tB, oX3 q_e q_t q_d q_eN eF eK eS (w_eE + 1) w_eU] H := hP
              have hD : va_D A [oX5 q_t q_tB tN, aB G q_tB 740 tB, oX3 q_e q_t q_d q_eN eF eK eS (w_eE + 1) w_eU] := hD
              refine lv_goto (tgt := 7) hx hb dX3_scanRun_123 (by decide) ?_
              have e9 : f_X3_scanRun_L7 tB tN (n + 1) v1 w_eE w_eU = f_X3_scanRun_L7 tB tN n v1 (w_eE + 1) w_eU := by rw [f_X3_scanRun_L7, if_neg c_1, if_pos c_2, if_neg c_5, if_pos c_6]
              rw [e9] at kk
              exact ih v1 (w_eE + 1) w_eU hk _ _ hP hD hS ls (lv_sub hl [0, 1] rfl) kk
            · rw [if_neg c_6] at hk
              refine lv_iinc (v := (v1 + 1)) (lv' := [(1, .int (v1 + 1)), (0, .ref q_e)]) hx hb dX3_scanRun_72 hl (k := 1) rfl (by rfl) (by decide) rfl (fun ls hl => ?_)
              refine lv_aload_n hx hb dX3_scanRun_75 rfl (lv_at hl 1 rfl) ?_
              refine lv_iload_n hx hb dX3_scanRun_76 rfl (lv_at hl 0 rfl) ?_
              refine lv_iconst (v := 3) hx hb dX3_scanRun_77 (by decide) ?_
              refine lv_icmp_gt (tgt := 106) hx hb dX3_scanRun_78 (by decide) (fun c_7 => ?_) (fun c_7 => ?_)
              · rw [if_pos c_7] at hk
                refine lv_aload_n hx hb dX3_scanRun_106 rfl (lv_at hl 1 rfl) ?_
                refine va_get (D := gD G) (ci := 3) (v := .int w_eU) (C := RX3) (T := TX3) (N := 8) hx hb hts i_X3 hown hB.1 hP 2 rfl rfl 7 (by decide) t_0 (fun _ h9 => h9) rfl dX3_scanRun_107 ?_
                refine va_put (D := gD G) (ci := 3) (v := .int w_eU) (ty := .int) (C := RX3) (T := TX3) (N := 8) hx hb hts i_X3 tyX3 tyX3_ok nmX3 hown hB.1 hP hD hS 2 rfl rfl 7 (by decide) t_0 (fun _ h9 => h9) rfl (by decide +kernel) rfl rfl (Nat.le_of_ble_eq_true rfl) dX3_scanRun_110 (fun H locs hP hD hS => ?_)
                have hP : va_P (gD G) vwCl [oX5 q_t q_tB tN, aB G q_tB 740 tB, oX3 q_e q_t q_d q_eN eF eK eS w_eE w_eU] H := hP
                have hD : va_D A [oX5 q_t q_tB tN, aB G q_tB 740 tB, oX3 q_e q_t q_d q_eN eF eK eS w_eE w_eU] := hD
                refine lv_aload_n hx hb dX3_scanRun_113 rfl (lv_at hl 1 rfl) ?_
                refine lv_dup hx hb dX3_scanRun_114 rfl ?_
                refine va_get (D := gD G) (ci := 3) (v := .int w_eE) (C := RX3) (T := TX3) (N := 8) hx hb hts i_X3 hown hB.1 hP 2 rfl rfl 6 (by decide) t_1 (fun _ h9 => h9) rfl dX3_scanRun_115 ?_
                refine lv_iconst (v := 1) hx hb dX3_scanRun_118 (by decide) ?_
                refine lv_iadd hx hb dX3_scanRun_119 ?_
                refine va_put (D := gD G) (ci := 3) (v := .int (w_eE + 1)) (ty := .int) (C := RX3) (T := TX3) (N := 8) hx hb hts i_X3 tyX3 tyX3_ok nmX3 hown hB.1 hP hD hS 2 rfl rfl 6 (by decide) t_1 (fun _ h9 => h9) rfl (by decide +kernel) rfl rfl (Nat.le_of_ble_eq_true rfl) dX3_scanRun_120 (fun H locs hP hD hS => ?_)
                have hP : va_P (gD G) vwCl [oX5 q_t q_tB tN, aB G q_tB 740 tB, oX3 q_e q_t q_d q_eN eF eK eS (w_eE + 1) w_eU] H := hP
                have hD : va_D A [oX5 q_t q_tB tN, aB G q_tB 740 tB, oX3 q_e q_t q_d q_eN eF eK eS (w_eE + 1) w_eU] := hD
                refine lv_goto (tgt := 7) hx hb dX3_scanRun_123 (by decide) ?_
                have e9 : f_X3_scanRun_L7 tB tN (n + 1) v1 w_eE w_eU = f_X3_scanRun_L7 tB tN n (v1 + 1) (w_eE + 1) w_eU := by rw [f_X3_scanRun_L7, if_neg c_1, if_pos c_2, if_neg c_5, if_neg c_6, if_pos c_7]
                rw [e9] at kk
                exact ih (v1 + 1) (w_eE + 1) w_eU hk _ _ hP hD hS ls (lv_sub hl [1, 0] rfl) kk
              · rw [if_neg c_7] at hk
                refine lv_aload_n hx hb dX3_scanRun_81 rfl (lv_at hl 1 rfl) ?_
                refine va_get (D := gD G) (ci := 3) (v := .int w_eU) (C := RX3) (T := TX3) (N := 8) hx hb hts i_X3 hown hB.1 hP 2 rfl rfl 7 (by decide) t_0 (fun _ h9 => h9) rfl dX3_scanRun_82 ?_
                refine lv_bipush (v := 10) hx hb dX3_scanRun_85 (by decide) ?_
                refine lv_imul hx hb dX3_scanRun_87 ?_
                refine lv_aload_n hx hb dX3_scanRun_88 rfl (lv_at hl 1 rfl) ?_
                refine va_get (D := gD G) (ci := 3) (v := .ref q_t) (C := RX3) (T := TX3) (N := 8) hx hb hts i_X3 hown hB.1 hP 2 rfl rfl 0 (by decide) t_2 (fun _ h9 => h9) rfl dX3_scanRun_89 ?_
                refine lv_aload_n hx hb dX3_scanRun_92 rfl (lv_at hl 1 rfl) ?_
                refine va_get (D := gD G) (ci := 3) (v := .int w_eE) (C := RX3) (T := TX3) (N := 8) hx hb hts i_X3 hown hB.1 hP 2 rfl rfl 6 (by decide) t_1 (fun _ h9 => h9) rfl dX3_scanRun_93 ?_
                refine ro_V (ci := 5) (q0 := 0) (As := [.int w_eE]) (rest := [.int (w_eU * 10), .ref q_e]) (c_X5_byteAt l G q_t q_tB tN tB w_eE) [0, 1] rfl rfl rfl rfl gX3_scanRun_X5_byteAt ⟨_, rfl⟩ hd_X5_byteAt rfl dX3_scanRun_96 rfl rfl (Nat.le_of_ble_eq_true rfl) ⟨Nat.le_of_ble_eq_true rfl, Nat.le_of_ble_eq_true rfl⟩ ⟨Nat.le_refl 0, Nat.le_refl 0⟩ hx hb hml hown hts hB hS hP hl.1 ?_
                refine W.eq (g2 := F0 m 99 ls [.int (f_X5_byteAt w_eE tB tN), .int (w_eU * 10), .ref q_e]) rfl ?_
                refine lv_iadd hx hb dX3_scanRun_99 ?_
                refine lv_bipush (v := 48) hx hb dX3_scanRun_100 (by decide) ?_
                refine lv_isub hx hb dX3_scanRun_102 ?_
                refine lv_goto (tgt := 110) hx hb dX3_scanRun_103 (by decide) ?_
                refine va_put (D := gD G) (ci := 3) (v := .int (((w_eU * 10) + (f_X5_byteAt w_eE tB tN)) - 48)) (ty := .int) (C := RX3) (T := TX3) (N := 8) hx hb hts i_X3 tyX3 tyX3_ok nmX3 hown hB.1 hP hD hS 2 rfl rfl 7 (by decide) t_0 (fun _ h9 => h9) rfl (by decide +kernel) rfl rfl (Nat.le_of_ble_eq_true rfl) dX3_scanRun_110 (fun H locs hP hD hS => ?_)
                have hP : va_P (gD G) vwCl [oX5 q_t q_tB tN, aB G q_tB 740 tB, oX3 q_e q_t q_d q_eN eF eK eS w_eE (((w_eU * 10) + (f_X5_byteAt w_eE tB tN)) - 48)] H := hP
                have hD : va_D A [oX5 q_t q_tB tN, aB G q_tB 740 tB, oX3 q_e q_t q_d q_eN eF eK eS w_eE (((w_eU * 10) + (f_X5_byteAt w_eE tB tN)) - 48)] := hD
                refine lv_aload_n hx hb dX3_scanRun_113 rfl (lv_at hl 1 rfl) ?_
                refine lv_dup hx hb dX3_scanRun_114 rfl ?_
                refine va_get (D := gD G) (ci := 3) (v := .int w_eE) (C := RX3) (T := TX3) (N := 8) hx hb hts i_X3 hown hB.1 hP 2 rfl rfl 6 (by decide) t_1 (fun _ h9 => h9) rfl dX3_scanRun_115 ?_
                refine lv_iconst (v := 1) hx hb dX3_scanRun_118 (by decide) ?_
                refine lv_iadd hx hb dX3_scanRun_119 ?_
                refine va_put (D := gD G) (ci := 3) (v := .int (w_eE + 1)) (ty := .int) (C := RX3) (T := TX3) (N := 8) hx hb hts i_X3 tyX3 tyX3_ok nmX3 hown hB.1 hP hD hS 2 rfl rfl 6 (by decide) t_1 (fun _ h9 => h9) rfl (by decide +kernel) rfl rfl (Nat.le_of_ble_eq_true rfl) dX3_scanRun_120 (fun H locs hP hD hS => ?_)
                have hP : va_P (gD G) vwCl [oX5 q_t q_tB tN, aB G q_tB 740 tB, oX3 q_e q_t q_d q_eN eF eK eS (w_eE + 1) (((w_eU * 10) + (f_X5_byteAt w_eE tB tN)) - 48)] H := hP
                have hD : va_D A [oX5 q_t q_tB tN, aB G q_tB 740 tB, oX3 q_e q_t q_d q_eN eF eK eS (w_eE + 1) (((w_eU * 10) + (f_X5_byteAt w_eE tB tN)) - 48)] := hD
                refine lv_goto (tgt := 7) hx hb dX3_scanRun_123 (by decide) ?_
                have e9 : f_X3_scanRun_L7 tB tN (n + 1) v1 w_eE w_eU = f_X3_scanRun_L7 tB tN n (v1 + 1) (w_eE + 1) (((w_eU * 10) + (f_X5_byteAt w_eE tB tN)) - 48) := by rw [f_X3_scanRun_L7, if_neg c_1, if_pos c_2, if_neg c_5, if_neg c_6, if_neg c_7]
                rw [e9] at kk
                exact ih (v1 + 1) (w_eE + 1) (((w_eU * 10) + (f_X5_byteAt w_eE tB tN)) - 48) hk _ _ hP hD hS ls (lv_sub hl [1, 0] rfl) kk
  obtain ⟨hkL, hk⟩ := hk
  refine L7 FU 0 eE 0 hkL _ _ hP hD hS ls (lv_sub hl [1, 0] rfl) (fun H locs hP hD hS ls hl => ?_)
  have hP : va_P (gD G) vwCl [oX5 q_t q_tB tN, aB G q_tB 740 tB, oX3 q_e q_t q_d q_eN eF eK eS ((f_X3_scanRun_L7 tB tN FU 0 eE 0).2.1) ((f_X3_scanRun_L7 tB tN FU 0 eE 0).2.2)] H := hP
  have hD : va_D A [oX5 q_t q_tB tN, aB G q_tB 740 tB, oX3 q_e q_t q_d q_eN eF eK eS ((f_X3_scanRun_L7 tB tN FU 0 eE 0).2.1) ((f_X3_scanRun_L7 tB tN FU 0 eE 0).2.2)] := hD
  refine lv_iload_n hx hb dX3_scanRun_126 rfl (lv_at hl 1 rfl) ?_
  refine lv_if_ne (tgt := 138) hx hb dX3_scanRun_127 (by decide) (fun c_8 => ?_) (fun c_8 => ?_)
  · refine lv_aload_n hx hb dX3_scanRun_138 rfl (lv_at hl 0 rfl) ?_
    refine lv_iload_n hx hb dX3_scanRun_139 rfl (lv_at hl 1 rfl) ?_
    refine lv_aload_n hx hb dX3_scanRun_140 rfl (lv_at hl 0 rfl) ?_
    refine va_get (D := gD G) (ci := 3) (v := .int ((f_X3_scanRun_L7 tB tN FU 0 eE 0).2.1)) (C := RX3) (T := TX3) (N := 8) hx hb hts i_X3 hown hB.1 hP 2 rfl rfl 6 (by decide) t_1 (fun _ h9 => h9) rfl dX3_scanRun_141 ?_
    refine lv_aload_n hx hb dX3_scanRun_144 rfl (lv_at hl 0 rfl) ?_
    refine va_get (D := gD G) (ci := 3) (v := .int eS) (C := RX3) (T := TX3) (N := 8) hx hb hts i_X3 hown hB.1 hP 2 rfl rfl 5 (by decide) t_3 (fun _ h9 => h9) rfl dX3_scanRun_145 ?_
    refine lv_isub hx hb dX3_scanRun_148 ?_
    refine lv_icmp_ne (tgt := 161) hx hb dX3_scanRun_149 (by decide) (fun c_9 => ?_) (fun c_9 => ?_)
    · refine lv_iconst (v := 0) hx hb dX3_scanRun_161 (by decide) ?_
      refine va_put (D := gD G) (ci := 3) (v := .int 0) (ty := .int) (C := RX3) (T := TX3) (N := 8) hx hb hts i_X3 tyX3 tyX3_ok nmX3 hown hB.1 hP hD hS 2 rfl rfl 4 (by decide) t_4 (fun _ h9 => h9) rfl (by decide +kernel) rfl rfl (Nat.le_of_ble_eq_true rfl) dX3_scanRun_162 (fun H locs hP hD hS => ?_)
      have hP : va_P (gD G) vwCl [oX5 q_t q_tB tN, aB G q_tB 740 tB, oX3 q_e q_t q_d q_eN eF 0 eS ((f_X3_scanRun_L7 tB tN FU 0 eE 0).2.1) ((f_X3_scanRun_L7 tB tN FU 0 eE 0).2.2)] H := hP
      have hD : va_D A [oX5 q_t q_tB tN, aB G q_tB 740 tB, oX3 q_e q_t q_d q_eN eF 0 eS ((f_X3_scanRun_L7 tB tN FU 0 eE 0).2.1) ((f_X3_scanRun_L7 tB tN FU 0 eE 0).2.2)] := hD
      have e9 : f_X3_scanRun tB tN eS eE = (0, ((f_X3_scanRun_L7 tB tN FU 0 eE 0).2.1), ((f_X3_scanRun_L7 tB tN FU 0 eE 0).2.2)) := by rw [f_X3_scanRun, if_neg c_8, if_neg c_9]
      exact fv 165 _ _ _ rfl dX3_scanRun_165 rfl (by rw [e9]; exact hP) (by rw [e9]; exact hD) hS
    · refine lv_iload_n hx hb dX3_scanRun_152 rfl (lv_at hl 1 rfl) ?_
      refine lv_iconst (v := 3) hx hb dX3_scanRun_153 (by decide) ?_
      refine lv_icmp_gt (tgt := 161) hx hb dX3_scanRun_154 (by decide) (fun c_10 => ?_) (fun c_10 => ?_)
      · refine lv_iconst (v := 0) hx hb dX3_scanRun_161 (by decide) ?_
        refine va_put (D := gD G) (ci := 3) (v := .int 0) (ty := .int) (C := RX3) (T := TX3) (N := 8) hx hb hts i_X3 tyX3 tyX3_ok nmX3 hown hB.1 hP hD hS 2 rfl rfl 4 (by decide) t_4 (fun _ h9 => h9) rfl (by decide +kernel) rfl rfl (Nat.le_of_ble_eq_true rfl) dX3_scanRun_162 (fun H locs hP hD hS => ?_)
        have hP : va_P (gD G) vwCl [oX5 q_t q_tB tN, aB G q_tB 740 tB, oX3 q_e q_t q_d q_eN eF 0 eS ((f_X3_scanRun_L7 tB tN FU 0 eE 0).2.1) ((f_X3_scanRun_L7 tB tN FU 0 eE 0).2.2)] H := hP
        have hD : va_D A [oX5 q_t q_tB tN, aB G q_tB 740 tB, oX3 q_e q_t q_d q_eN eF 0 eS ((f_X3_scanRun_L7 tB tN FU 0 eE 0).2.1) ((f_X3_scanRun_L7 tB tN FU 0 eE 0).2.2)] := hD
        have e9 : f_X3_scanRun tB tN eS eE = (0, ((f_X3_scanRun_L7 tB tN FU 0 eE 0).2.1), ((f_X3_scanRun_L7 tB tN FU 0 eE 0).2.2)) := by rw [f_X3_scanRun, if_neg c_8, if_pos c_9, if_pos c_10]
        exact fv 165 _ _ _ rfl dX3_scanRun_165 rfl (by rw [e9]; exact hP) (by rw [e9]; exact hD) hS
      · refine lv_iconst (v := 3) hx hb dX3_scanRun_157 (by decide) ?_
        refine lv_goto (tgt := 162) hx hb dX3_scanRun_158 (by decide) ?_
        refine va_put (D := gD G) (ci := 3) (v := .int 3) (ty := .int) (C := RX3) (T := TX3) (N := 8) hx hb hts i_X3 tyX3 tyX3_ok nmX3 hown hB.1 hP hD hS 2 rfl rfl 4 (by decide) t_4 (fun _ h9 => h9) rfl (by decide +kernel) rfl rfl (Nat.le_of_ble_eq_true rfl) dX3_scanRun_162 (fun H locs hP hD hS => ?_)
        have hP : va_P (gD G) vwCl [oX5 q_t q_tB tN, aB G q_tB 740 tB, oX3 q_e q_t q_d q_eN eF 3 eS ((f_X3_scanRun_L7 tB tN FU 0 eE 0).2.1) ((f_X3_scanRun_L7 tB tN FU 0 eE 0).2.2)] H := hP
        have hD : va_D A [oX5 q_t q_tB tN, aB G q_tB 740 tB, oX3 q_e q_t q_d q_eN eF 3 eS ((f_X3_scanRun_L7 tB tN FU 0 eE 0).2.1) ((f_X3_scanRun_L7 tB tN FU 0 eE 0).2.2)] := hD
        have e9 : f_X3_scanRun tB tN eS eE = (3, ((f_X3_scanRun_L7 tB tN FU 0 eE 0).2.1), ((f_X3_scanRun_L7 tB tN FU 0 eE 0).2.2)) := by rw [f_X3_scanRun, if_neg c_8, if_pos c_9, if_neg c_10]
        exact fv 165 _ _ _ rfl dX3_scanRun_165 rfl (by rw [e9]; exact hP) (by rw [e9]; exact hD) hS
  · refine lv_aload_n hx hb dX3_scanRun_130 rfl (lv_at hl 0 rfl) ?_
    refine lv_iconst (v := 2) hx hb dX3_scanRun_131 (by decide) ?_
    refine va_put (D := gD G) (ci := 3) (v := .int 2) (ty := .int) (C := RX3) (T := TX3) (N := 8) hx hb hts i_X3 tyX3 tyX3_ok nmX3 hown hB.1 hP hD hS 2 rfl rfl 4 (by decide) t_4 (fun _ h9 => h9) rfl (by decide +kernel) rfl rfl (Nat.le_of_ble_eq_true rfl) dX3_scanRun_132 (fun H locs hP hD hS => ?_)
    have hP : va_P (gD G) vwCl [oX5 q_t q_tB tN, aB G q_tB 740 tB, oX3 q_e q_t q_d q_eN eF 2 eS ((f_X3_scanRun_L7 tB tN FU 0 eE 0).2.1) ((f_X3_scanRun_L7 tB tN FU 0 eE 0).2.2)] H := hP
    have hD : va_D A [oX5 q_t q_tB tN, aB G q_tB 740 tB, oX3 q_e q_t q_d q_eN eF 2 eS ((f_X3_scanRun_L7 tB tN FU 0 eE 0).2.1) ((f_X3_scanRun_L7 tB tN FU 0 eE 0).2.2)] := hD
    refine lv_goto (tgt := 165) hx hb dX3_scanRun_135 (by decide) ?_
    have e9 : f_X3_scanRun tB tN eS eE = (2, ((f_X3_scanRun_L7 tB tN FU 0 eE 0).2.1), ((f_X3_scanRun_L7 tB tN FU 0 eE 0).2.2)) := by rw [f_X3_scanRun, if_pos c_8]
    exact fv 165 _ _ _ rfl dX3_scanRun_165 rfl (by rw [e9]; exact hP) (by rw [e9]; exact hD) hS

noncomputable def f_X3_advance_L26 (tB : Nat → Int32) (tN : Int32) : Nat → Int32 → Int32
  | 0, w_eS => w_eS
  | n + 1, w_eS => (if (jmin (f_X5_size tN) 700) ≤ w_eS then w_eS else (if (f_X3_isBlank (f_X5_byteAt w_eS tB tN)) = 0 then w_eS else f_X3_advance_L26 tB tN n (w_eS + 1)))
noncomputable def k_X3_advance_L26 (tB : Nat → Int32) (tN : Int32) : Nat → Int32 → Prop
  | 0, _ => False
  | n + 1, w_eS => (if (jmin (f_X5_size tN) 700) ≤ w_eS then True else (if (f_X3_isBlank (f_X5_byteAt w_eS tB tN)) = 0 then True else k_X3_advance_L26 tB tN n (w_eS + 1)))
noncomputable def f_X3_advance_L90 (tB : Nat → Int32) (tN : Int32) (w_eK : Int32) (w_eS : Int32) (w_eE : Int32) (w_eU : Int32) : Int32 × Int32 × Int32 × Int32 := (if w_eE = w_eS then (if (f_X5_byteAt w_eS tB tN) = 59 then (4, w_eS, (w_eS + 1), w_eU) else (0, w_eS, (w_eS + 1), w_eU)) else (w_eK, w_eS, w_eE, w_eU))
noncomputable def k_X3_advance_L90 (w_eK : Int32) (w_eS : Int32) (w_eE : Int32) (w_eU : Int32) : Prop := True
noncomputable def f_X3_advance (tB : Nat → Int32) (tN : Int32) (eE : Int32) (eU : Int32) : Int32 × Int32 × Int32 × Int32 := (if (f_X3_advance_L26 tB tN FU (jmin eE (jmin (f_X5_size tN) 700))) < (jmin (f_X5_size tN) 700) then f_X3_advance_L90 tB tN ((f_X3_scanRun tB tN (f_X3_advance_L26 tB tN FU (jmin eE (jmin (f_X5_size tN) 700))) (f_X3_advance_L26 tB tN FU (jmin eE (jmin (f_X5_size tN) 700)))).1) (f_X3_advance_L26 tB tN FU (jmin eE (jmin (f_X5_size tN) 700))) ((f_X3_scanRun tB tN (f_X3_advance_L26 tB tN FU (jmin eE (jmin (f_X5_size tN) 700))) (f_X3_advance_L26 tB tN FU (jmin eE (jmin (f_X5_size tN) 700)))).2.1) ((f_X3_scanRun tB tN (f_X3_advance_L26 tB tN FU (jmin eE (jmin (f_X5_size tN) 700))) (f_X3_advance_L26 tB tN FU (jmin eE (jmin (f_X5_size tN) 700)))).2.2) else (1, f_X3_advance_L26 tB tN FU (jmin eE (jmin (f_X5_size tN) 700)), f_X3_advance_L26 tB tN FU (jmin eE (jmin (f_X5_size tN) 700)), eU))
noncomputable def k_X3_advance (tB : Nat → Int32) (tN : Int32) (eE : Int32) : Prop := (k_X3_advance_L26 tB tN FU (jmin eE (jmin (f_X5_size tN) 700)) ∧ (if (f_X3_advance_L26 tB tN FU (jmin eE (jmin (f_X5_size tN) 700))) < (jmin (f_X5_size tN) 700) then (k_X3_scanRun tB tN (f_X3_advance_L26 tB tN FU (jmin eE (jmin (f_X5_size tN) 700))) ∧ k_X3_advance_L90  ((f_X3_scanRun tB tN (f_X3_advance_L26 tB tN FU (jmin eE (jmin (f_X5_size tN) 700))) (f_X3_advance_L26 tB tN FU (jmin eE (jmin (f_X5_size tN) 700)))).1) (f_X3_advance_L26 tB tN FU (jmin eE (jmin (f_X5_size tN) 700))) ((f_X3_scanRun tB tN (f_X3_advance_L26 tB tN FU (jmin eE (jmin (f_X5_size tN) 700))) (f_X3_advance_L26 tB tN FU (jmin eE (jmin (f_X5_size tN) 700)))).2.1) ((f_X3_scanRun tB tN (f_X3_advance_L26 tB tN FU (jmin eE (jmin (f_X5_size tN) 700))) (f_X3_advance_L26 tB tN FU (jmin eE (jmin (f_X5_size tN) 700)))).2.2)) else True))
theorem hd_X3_advance : yX3_advance.cls ≠ "java/lang/invoke/MethodHandle" ∧ yX3_advance.cls ≠ "java/lang/invoke/VarHandle" ∧ (parseMethodDescriptor yX3_advance.desc).map (fun d => d.parameters.length) = some 0 := by decide +kernel
set_option maxHeartbeats 4000000 in
set_option maxRecDepth 100000 in
theorem c_X3_advance (l : Launch) (G : BGT) (q_t q_tB q_e q_d q_eN : Nat) (tN : Int32) (tB : Nat → Int32) (eF : Int32) (eK : Int32) (eS : Int32) (eE : Int32) (eU : Int32) (hk : k_X3_advance tB tN eE) : WR l yX3_advance wsX3_advance 2 G [oX5 q_t q_tB tN, aB G q_tB 740 tB, oX3 q_e q_t q_d q_eN eF eK eS eE eU] [oX5 q_t q_tB tN, aB G q_tB 740 tB, oX3 q_e q_t q_d q_eN eF ((f_X3_advance tB tN eE eU).1) ((f_X3_advance tB tN eE eU).2.1) ((f_X3_advance tB tN eE eU).2.2.1) ((f_X3_advance tB tN eE eU).2.2.2)] [.ref q_e] none := by
  refine WR.ofW (cc := cX3_advance) (maxL := 2) (ret := none) (C := RX3) (by decide) rfl rfl (Nat.le_of_ble_eq_true rfl) ?_
  intro p e s m args below meth c Q ls A hx hb hml hts hown hP hD hS hA hB hl fi fv
  have hl : lv_has ls 2 [(0, .ref q_e)] := hl
  have t_0 := hts (.fieldLink RX3 15 "ParcelSplit$Reader" "tape" "LParcelSplit$Tape;") (by decide +kernel)
  have t_1 := hts (.methodLink RX3 148 Lib.Math.min.name) (by decide +kernel)
  have t_2 := hts (.static Lib.Math.min.name) (by decide +kernel)
  have t_3 := hts (.initialized "java/lang/Math") (by decide +kernel)
  have t_4 := hts (.code Lib.Math.min.name Lib.Math.min.code 2 (some .int)) (by decide +kernel)
  have t_5 := hts (.fieldLink RX3 32 "ParcelSplit$Reader" "end" "I") (by decide +kernel)
  have t_6 := hts (.fieldLink RX3 39 "ParcelSplit$Reader" "start" "I") (by decide +kernel)
  have t_7 := hts (.fieldLink RX3 49 "ParcelSplit$Reader" "kind" "I") (by decide +kernel)
  have i_X3 : ∀ w ∈ wsX30, w ∈ wsX3_advance := by decide +kernel
  have T90 : ∀ (w_eK : Int32) (w_eS : Int32) (w_eE : Int32) (w_eU : Int32), k_X3_advance_L90  w_eK w_eS w_eE w_eU → f_X3_advance tB tN eE eU = f_X3_advance_L90 tB tN w_eK w_eS w_eE w_eU → ∀ (H : Heap) (locs : List Loc), va_P (gD G) vwCl [oX5 q_t q_tB tN, aB G q_tB 740 tB, oX3 q_e q_t q_d q_eN eF w_eK w_eS w_eE w_eU] H → va_D A [oX5 q_t q_tB tN, aB G q_tB 740 tB, oX3 q_e q_t q_d q_eN eF w_eK w_eS w_eE w_eU] → va_S A s.heap H locs → ∀ (ls : Array Slot), lv_has ls 2 [(0, .ref q_e)] → W p l e (rm 2) s m args below meth c H locs 0 0 Q (F0 m 90 ls []) := by
    intro w_eK w_eS w_eE w_eU hk hv H locs hP hD hS ls hl
    rw [k_X3_advance_L90] at hk
    refine lv_aload_n hx hb dX3_advance_90 rfl (lv_at hl 0 rfl) ?_
    refine va_get (D := gD G) (ci := 3) (v := .int w_eE) (C := RX3) (T := TX3) (N := 8) hx hb hts i_X3 hown hB.1 hP 2 rfl rfl 6 (by decide) t_5 (fun _ h9 => h9) rfl dX3_advance_91 ?_
    refine lv_aload_n hx hb dX3_advance_94 rfl (lv_at hl 0 rfl) ?_
    refine va_get (D := gD G) (ci := 3) (v := .int w_eS) (C := RX3) (T := TX3) (N := 8) hx hb hts i_X3 hown hB.1 hP 2 rfl rfl 5 (by decide) t_6 (fun _ h9 => h9) rfl dX3_advance_95 ?_
    refine lv_icmp_ne (tgt := 136) hx hb dX3_advance_98 (by decide) (fun c_5 => ?_) (fun c_5 => ?_)
    · have e9 : f_X3_advance tB tN eE eU = (w_eK, w_eS, w_eE, w_eU) := by rw [hv, f_X3_advance_L90, if_neg c_5]
      exact fv 136 _ _ _ rfl dX3_advance_136 rfl (by rw [e9]; exact hP) (by rw [e9]; exact hD) hS
    · refine lv_aload_n hx hb dX3_advance_101 rfl (lv_at hl 0 rfl) ?_
      refine lv_aload_n hx hb dX3_advance_102 rfl (lv_at hl 0 rfl) ?_
      refine va_get (D := gD G) (ci := 3) (v := .ref q_t) (C := RX3) (T := TX3) (N := 8) hx hb hts i_X3 hown hB.1 hP 2 rfl rfl 0 (by decide) t_0 (fun _ h9 => h9) rfl dX3_advance_103 ?_
      refine lv_aload_n hx hb dX3_advance_106 rfl (lv_at hl 0 rfl) ?_
      refine va_get (D := gD G) (ci := 3) (v := .int w_eS) (C := RX3) (T := TX3) (N := 8) hx hb hts i_X3 hown hB.1 hP 2 rfl rfl 5 (by decide) t_6 (fun _ h9 => h9) rfl dX3_advance_107 ?_
      refine ro_V (ci := 5) (q0 := 0) (As := [.int w_eS]) (rest := [.ref q_e]) (c_X5_byteAt l G q_t q_tB tN tB w_eS) [0, 1] rfl rfl rfl rfl gX3_advance_X5_byteAt ⟨_, rfl⟩ hd_X5_byteAt rfl dX3_advance_110 rfl rfl (Nat.le_of_ble_eq_true rfl) ⟨Nat.le_of_ble_eq_true rfl, Nat.le_of_ble_eq_true rfl⟩ ⟨Nat.le_refl 0, Nat.le_refl 0⟩ hx hb hml hown hts hB hS hP hl.1 ?_
      refine W.eq (g2 := F0 m 113 ls [.int (f_X5_byteAt w_eS tB tN), .ref q_e]) rfl ?_
      refine lv_bipush (v := 59) hx hb dX3_advance_113 (by decide) ?_
      refine lv_icmp_ne (tgt := 122) hx hb dX3_advance_115 (by decide) (fun c_6 => ?_) (fun c_6 => ?_)
      · refine lv_iconst (v := 0) hx hb dX3_advance_122 (by decide) ?_
        refine va_put (D := gD G) (ci := 3) (v := .int 0) (ty := .int) (C := RX3) (T := TX3) (N := 8) hx hb hts i_X3 tyX3 tyX3_ok nmX3 hown hB.1 hP hD hS 2 rfl rfl 4 (by decide) t_7 (fun _ h9 => h9) rfl (by decide +kernel) rfl rfl (Nat.le_of_ble_eq_true rfl) dX3_advance_123 (fun H locs hP hD hS => ?_)
        have hP : va_P (gD G) vwCl [oX5 q_t q_tB tN, aB G q_tB 740 tB, oX3 q_e q_t q_d q_eN eF 0 w_eS w_eE w_eU] H := hP
        have hD : va_D A [oX5 q_t q_tB tN, aB G q_tB 740 tB, oX3 q_e q_t q_d q_eN eF 0 w_eS w_eE w_eU] := hD
        refine lv_aload_n hx hb dX3_advance_126 rfl (lv_at hl 0 rfl) ?_
        refine lv_aload_n hx hb dX3_advance_127 rfl (lv_at hl 0 rfl) ?_
        refine va_get (D := gD G) (ci := 3) (v := .int w_eS) (C := RX3) (T := TX3) (N := 8) hx hb hts i_X3 hown hB.1 hP 2 rfl rfl 5 (by decide) t_6 (fun _ h9 => h9) rfl dX3_advance_128 ?_
        refine lv_iconst (v := 1) hx hb dX3_advance_131 (by decide) ?_
        refine lv_iadd hx hb dX3_advance_132 ?_
        refine va_put (D := gD G) (ci := 3) (v := .int (w_eS + 1)) (ty := .int) (C := RX3) (T := TX3) (N := 8) hx hb hts i_X3 tyX3 tyX3_ok nmX3 hown hB.1 hP hD hS 2 rfl rfl 6 (by decide) t_5 (fun _ h9 => h9) rfl (by decide +kernel) rfl rfl (Nat.le_of_ble_eq_true rfl) dX3_advance_133 (fun H locs hP hD hS => ?_)
        have hP : va_P (gD G) vwCl [oX5 q_t q_tB tN, aB G q_tB 740 tB, oX3 q_e q_t q_d q_eN eF 0 w_eS (w_eS + 1) w_eU] H := hP
        have hD : va_D A [oX5 q_t q_tB tN, aB G q_tB 740 tB, oX3 q_e q_t q_d q_eN eF 0 w_eS (w_eS + 1) w_eU] := hD
        have e9 : f_X3_advance tB tN eE eU = (0, w_eS, (w_eS + 1), w_eU) := by rw [hv, f_X3_advance_L90, if_pos c_5, if_neg c_6]
        exact fv 136 _ _ _ rfl dX3_advance_136 rfl (by rw [e9]; exact hP) (by rw [e9]; exact hD) hS
      · refine lv_iconst (v := 4) hx hb dX3_advance_118 (by decide) ?_
        refine lv_goto (tgt := 123) hx hb dX3_advance_119 (by decide) ?_
        refine va_put (D := gD G) (ci := 3) (v := .int 4) (ty := .int) (C := RX3) (T := TX3) (N := 8) hx hb hts i_X3 tyX3 tyX3_ok nmX3 hown hB.1 hP hD hS 2 rfl rfl 4 (by decide) t_7 (fun _ h9 => h9) rfl (by decide +kernel) rfl rfl (Nat.le_of_ble_eq_true rfl) dX3_advance_123 (fun H locs hP hD hS => ?_)
        have hP : va_P (gD G) vwCl [oX5 q_t q_tB tN, aB G q_tB 740 tB, oX3 q_e q_t q_d q_eN eF 4 w_eS w_eE w_eU] H := hP
        have hD : va_D A [oX5 q_t q_tB tN, aB G q_tB 740 tB, oX3 q_e q_t q_d q_eN eF 4 w_eS w_eE w_eU] := hD
        refine lv_aload_n hx hb dX3_advance_126 rfl (lv_at hl 0 rfl) ?_
        refine lv_aload_n hx hb dX3_advance_127 rfl (lv_at hl 0 rfl) ?_
        refine va_get (D := gD G) (ci := 3) (v := .int w_eS) (C := RX3) (T := TX3) (N := 8) hx hb hts i_X3 hown hB.1 hP 2 rfl rfl 5 (by decide) t_6 (fun _ h9 => h9) rfl dX3_advance_128 ?_
        refine lv_iconst (v := 1) hx hb dX3_advance_131 (by decide) ?_
        refine lv_iadd hx hb dX3_advance_132 ?_
        refine va_put (D := gD G) (ci := 3) (v := .int (w_eS + 1)) (ty := .int) (C := RX3) (T := TX3) (N := 8) hx hb hts i_X3 tyX3 tyX3_ok nmX3 hown hB.1 hP hD hS 2 rfl rfl 6 (by decide) t_5 (fun _ h9 => h9) rfl (by decide +kernel) rfl rfl (Nat.le_of_ble_eq_true rfl) dX3_advance_133 (fun H locs hP hD hS => ?_)
        have hP : va_P (gD G) vwCl [oX5 q_t q_tB tN, aB G q_tB 740 tB, oX3 q_e q_t q_d q_eN eF 4 w_eS (w_eS + 1) w_eU] H := hP
        have hD : va_D A [oX5 q_t q_tB tN, aB G q_tB 740 tB, oX3 q_e q_t q_d q_eN eF 4 w_eS (w_eS + 1) w_eU] := hD
        have e9 : f_X3_advance tB tN eE eU = (4, w_eS, (w_eS + 1), w_eU) := by rw [hv, f_X3_advance_L90, if_pos c_5, if_pos c_6]
        exact fv 136 _ _ _ rfl dX3_advance_136 rfl (by rw [e9]; exact hP) (by rw [e9]; exact hD) hS
  rw [k_X3_advance] at hk
  refine lv_aload_n hx hb dX3_advance_0 rfl (lv_at hl 0 rfl) ?_
  refine va_get (D := gD G) (ci := 3) (v := .ref q_t) (C := RX3) (T := TX3) (N := 8) hx hb hts i_X3 hown hB.1 hP 2 rfl rfl 0 (by decide) t_0 (fun _ h9 => h9) rfl dX3_advance_1 ?_
  refine ro_V (ci := 5) (q0 := 0) (As := []) (rest := []) (c_X5_size l G q_t q_tB tN) [0] rfl rfl rfl rfl gX3_advance_X5_size ⟨_, rfl⟩ hd_X5_size rfl dX3_advance_4 rfl rfl (Nat.le_of_ble_eq_true rfl) ⟨Nat.le_of_ble_eq_true rfl, Nat.le_of_ble_eq_true rfl⟩ ⟨Nat.le_refl 0, Nat.le_refl 0⟩ hx hb hml hown hts hB hS hP hl.1 ?_
  refine W.eq (g2 := F0 m 7 ls [.int (f_X5_size tN)]) rfl ?_
  refine lv_sipush (v := 700) hx hb dX3_advance_7 (by decide) ?_
  refine va_mmin hx hb (hml.trans hl.1.symm) hown t_1 t_2 t_3 t_4 (Nat.le_of_ble_eq_true rfl) (Nat.le_of_ble_eq_true rfl) (Nat.le_of_ble_eq_true rfl) (Nat.le_of_ble_eq_true rfl) dX3_advance_10 ?_
  refine W.eq (g2 := F0 m 13 ls [.int (jmin (f_X5_size tN) 700)]) rfl ?_
  refine lv_istore_n (lv' := [(1, .int (jmin (f_X5_size tN) 700)), (0, .ref q_e)]) hx hb dX3_advance_13 rfl hl (by decide) rfl (fun ls hl => ?_)
  refine lv_aload_n hx hb dX3_advance_14 rfl (lv_at hl 1 rfl) ?_
  refine lv_aload_n hx hb dX3_advance_15 rfl (lv_at hl 1 rfl) ?_
  refine va_get (D := gD G) (ci := 3) (v := .int eE) (C := RX3) (T := TX3) (N := 8) hx hb hts i_X3 hown hB.1 hP 2 rfl rfl 6 (by decide) t_5 (fun _ h9 => h9) rfl dX3_advance_16 ?_
  refine lv_iload_n hx hb dX3_advance_19 rfl (lv_at hl 0 rfl) ?_
  refine va_mmin hx hb (hml.trans hl.1.symm) hown t_1 t_2 t_3 t_4 (Nat.le_of_ble_eq_true rfl) (Nat.le_of_ble_eq_true rfl) (Nat.le_of_ble_eq_true rfl) (Nat.le_of_ble_eq_true rfl) dX3_advance_20 ?_
  refine W.eq (g2 := F0 m 23 ls [.int (jmin eE (jmin (f_X5_size tN) 700)), .ref q_e]) rfl ?_
  refine va_put (D := gD G) (ci := 3) (v := .int (jmin eE (jmin (f_X5_size tN) 700))) (ty := .int) (C := RX3) (T := TX3) (N := 8) hx hb hts i_X3 tyX3 tyX3_ok nmX3 hown hB.1 hP hD hS 2 rfl rfl 5 (by decide) t_6 (fun _ h9 => h9) rfl (by decide +kernel) rfl rfl (Nat.le_of_ble_eq_true rfl) dX3_advance_23 (fun H locs hP hD hS => ?_)
  have hP : va_P (gD G) vwCl [oX5 q_t q_tB tN, aB G q_tB 740 tB, oX3 q_e q_t q_d q_eN eF eK (jmin eE (jmin (f_X5_size tN) 700)) eE eU] H := hP
  have hD : va_D A [oX5 q_t q_tB tN, aB G q_tB 740 tB, oX3 q_e q_t q_d q_eN eF eK (jmin eE (jmin (f_X5_size tN) 700)) eE eU] := hD
  have L26 : ∀ (n : Nat) (w_eS : Int32), k_X3_advance_L26 tB tN n w_eS → ∀ (H : Heap) (locs : List Loc), va_P (gD G) vwCl [oX5 q_t q_tB tN, aB G q_tB 740 tB, oX3 q_e q_t q_d q_eN eF eK w_eS eE eU] H → va_D A [oX5 q_t q_tB tN, aB G q_tB 740 tB, oX3 q_e q_t q_d q_eN eF eK w_eS eE eU] → va_S A s.heap H locs → ∀ (ls : Array Slot), lv_has ls 2 [(0, .ref q_e), (1, .int (jmin (f_X5_size tN) 700))] → (∀ (H : Heap) (locs : List Loc), va_P (gD G) vwCl [oX5 q_t q_tB tN, aB G q_tB 740 tB, oX3 q_e q_t q_d q_eN eF eK (f_X3_advance_L26 tB tN n w_eS) eE eU] H → va_D A [oX5 q_t q_tB tN, aB G q_tB 740 tB, oX3 q_e q_t q_d q_eN eF eK (f_X3_advance_L26 tB tN n w_eS) eE eU] → va_S A s.heap H locs → ∀ (ls : Array Slot), lv_has ls 2 [(0, .ref q_e), (1, .int (jmin (f_X5_size tN) 700))] → W p l e (rm 2) s m args below meth c H locs 0 0 Q (F0 m 64 ls [])) → W p l e (rm 2) s m args below meth c H locs 0 0 Q (F0 m 26 ls []) := by
    intro n
    induction n with
    | zero => intro w_eS hk; exact (hk : False).elim
    | succ n ih =>
      intro w_eS hk H locs hP hD hS ls hl kk
      rw [k_X3_advance_L26] at hk
      refine lv_aload_n hx hb dX3_advance_26 rfl (lv_at hl 0 rfl) ?_
      refine va_get (D := gD G) (ci := 3) (v := .int w_eS) (C := RX3) (T := TX3) (N := 8) hx hb hts i_X3 hown hB.1 hP 2 rfl rfl 5 (by decide) t_6 (fun _ h9 => h9) rfl dX3_advance_27 ?_
      refine lv_iload_n hx hb dX3_advance_30 rfl (lv_at hl 1 rfl) ?_
      refine lv_icmp_ge (tgt := 64) hx hb dX3_advance_31 (by decide) (fun c_1 => ?_) (fun c_1 => ?_)
      · rw [if_pos c_1] at hk
        have e9 : f_X3_advance_L26 tB tN (n + 1) w_eS = w_eS := by rw [f_X3_advance_L26, if_pos c_1]
        rw [e9] at kk
        exact kk _ _ hP hD hS ls (lv_sub hl [0, 1] rfl)
      · rw [if_neg c_1] at hk
        refine lv_aload_n hx hb dX3_advance_34 rfl (lv_at hl 0 rfl) ?_
        refine va_get (D := gD G) (ci := 3) (v := .ref q_t) (C := RX3) (T := TX3) (N := 8) hx hb hts i_X3 hown hB.1 hP 2 rfl rfl 0 (by decide) t_0 (fun _ h9 => h9) rfl dX3_advance_35 ?_
        refine lv_aload_n hx hb dX3_advance_38 rfl (lv_at hl 0 rfl) ?_
        refine va_get (D := gD G) (ci := 3) (v := .int w_eS) (C := RX3) (T := TX3) (N := 8) hx hb hts i_X3 hown hB.1 hP 2 rfl rfl 5 (by decide) t_6 (fun _ h9 => h9) rfl dX3_advance_39 ?_
        refine ro_V (ci := 5) (q0 := 0) (As := [.int w_eS]) (rest := []) (c_X5_byteAt l G q_t q_tB tN tB w_eS) [0, 1] rfl rfl rfl rfl gX3_advance_X5_byteAt ⟨_, rfl⟩ hd_X5_byteAt rfl dX3_advance_42 rfl rfl (Nat.le_of_ble_eq_true rfl) ⟨Nat.le_of_ble_eq_true rfl, Nat.le_of_ble_eq_true rfl⟩ ⟨Nat.le_refl 0, Nat.le_refl 0⟩ hx hb hml hown hts hB hS hP hl.1 ?_
        refine W.eq (g2 := F0 m 45 ls [.int (f_X5_byteAt w_eS tB tN)]) rfl ?_
        refine ro_S (As := [.int (f_X5_byteAt w_eS tB tN)]) (rest := []) (c_X3_isBlank l G (f_X5_byteAt w_eS tB tN)) [] rfl gX3_advance_X3_isBlank ⟨_, rfl⟩ hd_X3_isBlank dX3_advance_45 rfl rfl (Nat.le_of_ble_eq_true rfl) ⟨Nat.le_of_ble_eq_true rfl, Nat.le_of_ble_eq_true rfl⟩ ⟨Nat.le_refl 0, Nat.le_refl 0⟩ hx hb hml hown hts hB hS hP hl.1 ?_
        refine W.eq (g2 := F0 m 48 ls [.int (f_X3_isBlank (f_X5_byteAt w_eS tB tN))]) rfl ?_
        refine lv_if_eq (tgt := 64) hx hb dX3_advance_48 (by decide) (fun c_2 => ?_) (fun c_2 => ?_)
        · rw [if_pos c_2] at hk
          have e9 : f_X3_advance_L26 tB tN (n + 1) w_eS = w_eS := by rw [f_X3_advance_L26, if_neg c_1, if_pos c_2]
          rw [e9] at kk
          exact kk _ _ hP hD hS ls (lv_sub hl [0, 1] rfl)
        · rw [if_neg c_2] at hk
          refine lv_aload_n hx hb dX3_advance_51 rfl (lv_at hl 0 rfl) ?_
          refine lv_dup hx hb dX3_advance_52 rfl ?_
          refine va_get (D := gD G) (ci := 3) (v := .int w_eS) (C := RX3) (T := TX3) (N := 8) hx hb hts i_X3 hown hB.1 hP 2 rfl rfl 5 (by decide) t_6 (fun _ h9 => h9) rfl dX3_advance_53 ?_
          refine lv_iconst (v := 1) hx hb dX3_advance_56 (by decide) ?_
          refine lv_iadd hx hb dX3_advance_57 ?_
          refine va_put (D := gD G) (ci := 3) (v := .int (w_eS + 1)) (ty := .int) (C := RX3) (T := TX3) (N := 8) hx hb hts i_X3 tyX3 tyX3_ok nmX3 hown hB.1 hP hD hS 2 rfl rfl 5 (by decide) t_6 (fun _ h9 => h9) rfl (by decide +kernel) rfl rfl (Nat.le_of_ble_eq_true rfl) dX3_advance_58 (fun H locs hP hD hS => ?_)
          have hP : va_P (gD G) vwCl [oX5 q_t q_tB tN, aB G q_tB 740 tB, oX3 q_e q_t q_d q_eN eF eK (w_eS + 1) eE eU] H := hP
          have hD : va_D A [oX5 q_t q_tB tN, aB G q_tB 740 tB, oX3 q_e q_t q_d q_eN eF eK (w_eS + 1) eE eU] := hD
          refine lv_goto (tgt := 26) hx hb dX3_advance_61 (by decide) ?_
          have e9 : f_X3_advance_L26 tB tN (n + 1) w_eS = f_X3_advance_L26 tB tN n (w_eS + 1) := by rw [f_X3_advance_L26, if_neg c_1, if_neg c_2]
          rw [e9] at kk
          exact ih (w_eS + 1) hk _ _ hP hD hS ls (lv_sub hl [0, 1] rfl) kk
  obtain ⟨hkL, hk⟩ := hk
  refine L26 FU (jmin eE (jmin (f_X5_size tN) 700)) hkL _ _ hP hD hS ls (lv_sub hl [1, 0] rfl) (fun H locs hP hD hS ls hl => ?_)
  have hP : va_P (gD G) vwCl [oX5 q_t q_tB tN, aB G q_tB 740 tB, oX3 q_e q_t q_d q_eN eF eK (f_X3_advance_L26 tB tN FU (jmin eE (jmin (f_X5_size tN) 700))) eE eU] H := hP
  have hD : va_D A [oX5 q_t q_tB tN, aB G q_tB 740 tB, oX3 q_e q_t q_d q_eN eF eK (f_X3_advance_L26 tB tN FU (jmin eE (jmin (f_X5_size tN) 700))) eE eU] := hD
  refine lv_aload_n hx hb dX3_advance_64 rfl (lv_at hl 0 rfl) ?_
  refine lv_aload_n hx hb dX3_advance_65 rfl (lv_at hl 0 rfl) ?_
  refine va_get (D := gD G) (ci := 3) (v := .int (f_X3_advance_L26 tB tN FU (jmin eE (jmin (f_X5_size tN) 700)))) (C := RX3) (T := TX3) (N := 8) hx hb hts i_X3 hown hB.1 hP 2 rfl rfl 5 (by decide) t_6 (fun _ h9 => h9) rfl dX3_advance_66 ?_
  refine va_put (D := gD G) (ci := 3) (v := .int (f_X3_advance_L26 tB tN FU (jmin eE (jmin (f_X5_size tN) 700)))) (ty := .int) (C := RX3) (T := TX3) (N := 8) hx hb hts i_X3 tyX3 tyX3_ok nmX3 hown hB.1 hP hD hS 2 rfl rfl 6 (by decide) t_5 (fun _ h9 => h9) rfl (by decide +kernel) rfl rfl (Nat.le_of_ble_eq_true rfl) dX3_advance_69 (fun H locs hP hD hS => ?_)
  have hP : va_P (gD G) vwCl [oX5 q_t q_tB tN, aB G q_tB 740 tB, oX3 q_e q_t q_d q_eN eF eK (f_X3_advance_L26 tB tN FU (jmin eE (jmin (f_X5_size tN) 700))) (f_X3_advance_L26 tB tN FU (jmin eE (jmin (f_X5_size tN) 700))) eU] H := hP
  have hD : va_D A [oX5 q_t q_tB tN, aB G q_tB 740 tB, oX3 q_e q_t q_d q_eN eF eK (f_X3_advance_L26 tB tN FU (jmin eE (jmin (f_X5_size tN) 700))) (f_X3_advance_L26 tB tN FU (jmin eE (jmin (f_X5_size tN) 700))) eU] := hD
  refine lv_aload_n hx hb dX3_advance_72 rfl (lv_at hl 0 rfl) ?_
  refine va_get (D := gD G) (ci := 3) (v := .int (f_X3_advance_L26 tB tN FU (jmin eE (jmin (f_X5_size tN) 700)))) (C := RX3) (T := TX3) (N := 8) hx hb hts i_X3 hown hB.1 hP 2 rfl rfl 5 (by decide) t_6 (fun _ h9 => h9) rfl dX3_advance_73 ?_
  refine lv_iload_n hx hb dX3_advance_76 rfl (lv_at hl 1 rfl) ?_
  refine lv_icmp_lt (tgt := 86) hx hb dX3_advance_77 (by decide) (fun c_3 => ?_) (fun c_3 => ?_)
  · rw [if_pos c_3] at hk
    refine lv_aload_n hx hb dX3_advance_86 rfl (lv_at hl 0 rfl) ?_
    obtain ⟨o_4, hk⟩ := hk
    refine wr_V (ci := 3) (q0 := 2) (As := []) (rest := []) (wr := []) (wf := [oX5 q_t q_tB tN, aB G q_tB 740 tB, oX3 q_e q_t q_d q_eN eF ((f_X3_scanRun tB tN (f_X3_advance_L26 tB tN FU (jmin eE (jmin (f_X5_size tN) 700))) (f_X3_advance_L26 tB tN FU (jmin eE (jmin (f_X5_size tN) 700)))).1) (f_X3_advance_L26 tB tN FU (jmin eE (jmin (f_X5_size tN) 700))) ((f_X3_scanRun tB tN (f_X3_advance_L26 tB tN FU (jmin eE (jmin (f_X5_size tN) 700))) (f_X3_advance_L26 tB tN FU (jmin eE (jmin (f_X5_size tN) 700)))).2.1) ((f_X3_scanRun tB tN (f_X3_advance_L26 tB tN FU (jmin eE (jmin (f_X5_size tN) 700))) (f_X3_advance_L26 tB tN FU (jmin eE (jmin (f_X5_size tN) 700)))).2.2)]) (c_X3_scanRun l G q_t q_tB q_e q_d q_eN tN tB eF eK (f_X3_advance_L26 tB tN FU (jmin eE (jmin (f_X5_size tN) 700))) (f_X3_advance_L26 tB tN FU (jmin eE (jmin (f_X5_size tN) 700))) eU o_4) [0, 1, 2] [] [0, 1, 2] rfl rfl rfl (by decide) rfl rfl rfl gX3_advance_X3_scanRun ⟨_, rfl⟩ hd_X3_scanRun rfl dX3_advance_87 rfl rfl (Nat.le_of_ble_eq_true rfl) ⟨Nat.le_of_ble_eq_true rfl, Nat.le_of_ble_eq_true rfl⟩ ⟨Nat.le_refl 0, Nat.le_refl 0⟩ hx hb hml hown hts hB hD hS hA hP hl.1 (fun H locs hP hD hS => ?_)
    refine W.eq (g2 := F0 m 90 ls []) rfl ?_
    exact T90 ((f_X3_scanRun tB tN (f_X3_advance_L26 tB tN FU (jmin eE (jmin (f_X5_size tN) 700))) (f_X3_advance_L26 tB tN FU (jmin eE (jmin (f_X5_size tN) 700)))).1) (f_X3_advance_L26 tB tN FU (jmin eE (jmin (f_X5_size tN) 700))) ((f_X3_scanRun tB tN (f_X3_advance_L26 tB tN FU (jmin eE (jmin (f_X5_size tN) 700))) (f_X3_advance_L26 tB tN FU (jmin eE (jmin (f_X5_size tN) 700)))).2.1) ((f_X3_scanRun tB tN (f_X3_advance_L26 tB tN FU (jmin eE (jmin (f_X5_size tN) 700))) (f_X3_advance_L26 tB tN FU (jmin eE (jmin (f_X5_size tN) 700)))).2.2) hk (by rw [f_X3_advance, if_pos c_3]) _ _ hP hD hS ls (lv_sub hl [0] rfl)
  · rw [if_neg c_3] at hk
    refine lv_aload_n hx hb dX3_advance_80 rfl (lv_at hl 0 rfl) ?_
    refine lv_iconst (v := 1) hx hb dX3_advance_81 (by decide) ?_
    refine va_put (D := gD G) (ci := 3) (v := .int 1) (ty := .int) (C := RX3) (T := TX3) (N := 8) hx hb hts i_X3 tyX3 tyX3_ok nmX3 hown hB.1 hP hD hS 2 rfl rfl 4 (by decide) t_7 (fun _ h9 => h9) rfl (by decide +kernel) rfl rfl (Nat.le_of_ble_eq_true rfl) dX3_advance_82 (fun H locs hP hD hS => ?_)
    have hP : va_P (gD G) vwCl [oX5 q_t q_tB tN, aB G q_tB 740 tB, oX3 q_e q_t q_d q_eN eF 1 (f_X3_advance_L26 tB tN FU (jmin eE (jmin (f_X5_size tN) 700))) (f_X3_advance_L26 tB tN FU (jmin eE (jmin (f_X5_size tN) 700))) eU] H := hP
    have hD : va_D A [oX5 q_t q_tB tN, aB G q_tB 740 tB, oX3 q_e q_t q_d q_eN eF 1 (f_X3_advance_L26 tB tN FU (jmin eE (jmin (f_X5_size tN) 700))) (f_X3_advance_L26 tB tN FU (jmin eE (jmin (f_X5_size tN) 700))) eU] := hD
    have e9 : f_X3_advance tB tN eE eU = (1, f_X3_advance_L26 tB tN FU (jmin eE (jmin (f_X5_size tN) 700)), f_X3_advance_L26 tB tN FU (jmin eE (jmin (f_X5_size tN) 700)), eU) := by rw [f_X3_advance, if_neg c_3]
    exact fv 85 _ _ _ rfl dX3_advance_85 rfl (by rw [e9]; exact hP) (by rw [e9]; exact hD) hS

noncomputable def f_X3_lowest (x1 : Int32) (x2 : Int32) (dB : Nat → Int32) (dZ : Nat → Int32) (dP : Nat → Int32) (dQ : Nat → Int32) (dC : Int32) : Int32 := (if x1 = 1 then (if x2 = 0 then (if (f_X0_breakCount ((f_X0_carrierCount dC) - 1) dP) ≤ 0 then (if x1 = 2 then (if x2 = 0 then (if (f_X0_zonesCount ((f_X0_carrierCount dC) - 1) dQ) ≤ 0 then (f_X6_at_S ((x1 * 6) + x2) bgS4) else ((f_X0_zonesNumber ((f_X0_carrierCount dC) - 1) ((f_X0_zonesCount ((f_X0_carrierCount dC) - 1) dQ) - 1) 0 dZ) + 1)) else (f_X6_at_S ((x1 * 6) + x2) bgS4)) else (f_X6_at_S ((x1 * 6) + x2) bgS4)) else ((f_X0_breakNumber ((f_X0_carrierCount dC) - 1) ((f_X0_breakCount ((f_X0_carrierCount dC) - 1) dP) - 1) 0 dB) + 1)) else (if x1 = 2 then (if x2 = 0 then (if (f_X0_zonesCount ((f_X0_carrierCount dC) - 1) dQ) ≤ 0 then (f_X6_at_S ((x1 * 6) + x2) bgS4) else ((f_X0_zonesNumber ((f_X0_carrierCount dC) - 1) ((f_X0_zonesCount ((f_X0_carrierCount dC) - 1) dQ) - 1) 0 dZ) + 1)) else (f_X6_at_S ((x1 * 6) + x2) bgS4)) else (f_X6_at_S ((x1 * 6) + x2) bgS4))) else (if x1 = 2 then (if x2 = 0 then (if (f_X0_zonesCount ((f_X0_carrierCount dC) - 1) dQ) ≤ 0 then (f_X6_at_S ((x1 * 6) + x2) bgS4) else ((f_X0_zonesNumber ((f_X0_carrierCount dC) - 1) ((f_X0_zonesCount ((f_X0_carrierCount dC) - 1) dQ) - 1) 0 dZ) + 1)) else (f_X6_at_S ((x1 * 6) + x2) bgS4)) else (f_X6_at_S ((x1 * 6) + x2) bgS4)))
theorem hd_X3_lowest : yX3_lowest.cls ≠ "java/lang/invoke/MethodHandle" ∧ yX3_lowest.cls ≠ "java/lang/invoke/VarHandle" ∧ (parseMethodDescriptor yX3_lowest.desc).map (fun d => d.parameters.length) = some 2 := by decide +kernel
set_option maxHeartbeats 4000000 in
set_option maxRecDepth 100000 in
theorem c_X3_lowest (l : Launch) (G : BGT) (q_d q_dA q_dB q_dZ q_dG q_dP q_dQ q_e q_t q_eN : Nat) (dC : Int32) (dM : Int32) (dL : Int32) (dD : Int32) (dB : Nat → Int32) (dZ : Nat → Int32) (dP : Nat → Int32) (dQ : Nat → Int32) (eF : Int32) (eK : Int32) (eS : Int32) (eE : Int32) (eU : Int32) (x1 : Int32) (x2 : Int32) : RO l yX3_lowest wsX3_lowest 2 G [oX0 q_d q_dA q_dB q_dZ q_dG q_dP q_dQ dC dM dL dD, aI G q_dB 60 dB, aI G q_dZ 45 dZ, aI G q_dP 3 dP, aI G q_dQ 3 dQ, oX3 q_e q_t q_d q_eN eF eK eS eE eU] [.ref q_e, .int x1, .int x2] (some (.int (f_X3_lowest x1 x2 dB dZ dP dQ dC))) := by
  refine RO.ofW (cc := cX3_lowest) (maxL := 6) (ret := (some .int)) (C := RX3) (by decide) rfl rfl (Nat.le_of_ble_eq_true rfl) ?_
  intro p e s m args below meth c Q ls hx hb hml hts hown hP hB hl fi fl fv
  have hS : va_S (fun _ => False) s.heap s.heap [] := va_S.rf
  have hl : lv_has ls 6 [(0, .ref q_e), (1, .int x1), (2, .int x2)] := hl
  have t_0 := hts (.fieldLink RX3 19 "ParcelSplit$Reader" "draft" "LParcelSplit$Book;") (by decide +kernel)
  have t_1 := hts (.fieldLink RX3 116 "ParcelSplit$Reader" "LOWEST" "[I") (by decide +kernel)
  have m_0 : Cond.initialized RX6 ∈ wsX3_lowest := by decide +kernel
  have m_1 : Cond.static yX6_at ∈ wsX3_lowest := by decide +kernel
  have i_X3 : ∀ w ∈ wsX30, w ∈ wsX3_lowest := by decide +kernel
  refine lv_aload_n hx hb dX3_lowest_0 rfl (lv_at hl 0 rfl) ?_
  refine va_get (D := gD G) (ci := 3) (v := .ref q_d) (C := RX3) (T := TX3) (N := 8) hx hb hts i_X3 hown hB.1 hP 5 rfl rfl 1 (by decide) t_0 (fun _ h9 => h9) rfl dX3_lowest_1 ?_
  refine ro_V (ci := 0) (q0 := 0) (As := []) (rest := []) (c_X0_carrierCount l G q_d q_dA q_dB q_dZ q_dG q_dP q_dQ dC dM dL dD) [0] rfl rfl rfl rfl gX3_lowest_X0_carrierCount ⟨_, rfl⟩ hd_X0_carrierCount rfl dX3_lowest_4 rfl rfl (Nat.le_of_ble_eq_true rfl) ⟨Nat.le_of_ble_eq_true rfl, Nat.le_of_ble_eq_true rfl⟩ ⟨Nat.le_refl 0, Nat.le_refl 0⟩ hx hb hml hown hts hB hS hP hl.1 ?_
  refine W.eq (g2 := F0 m 7 ls [.int (f_X0_carrierCount dC)]) rfl ?_
  refine lv_iconst (v := 1) hx hb dX3_lowest_7 (by decide) ?_
  refine lv_isub hx hb dX3_lowest_8 ?_
  refine lv_istore_n (lv' := [(3, .int ((f_X0_carrierCount dC) - 1)), (0, .ref q_e), (1, .int x1), (2, .int x2)]) hx hb dX3_lowest_9 rfl hl (by decide) rfl (fun ls hl => ?_)
  refine lv_aload_n hx hb dX3_lowest_10 rfl (lv_at hl 1 rfl) ?_
  refine va_get (D := gD G) (ci := 3) (v := .ref q_d) (C := RX3) (T := TX3) (N := 8) hx hb hts i_X3 hown hB.1 hP 5 rfl rfl 1 (by decide) t_0 (fun _ h9 => h9) rfl dX3_lowest_11 ?_
  refine lv_iload_n hx hb dX3_lowest_14 rfl (lv_at hl 0 rfl) ?_
  refine ro_V (ci := 0) (q0 := 0) (As := [.int ((f_X0_carrierCount dC) - 1)]) (rest := []) (c_X0_breakCount l G q_d q_dA q_dB q_dZ q_dG q_dP q_dQ dC dM dL dD dP ((f_X0_carrierCount dC) - 1)) [0, 3] rfl rfl rfl rfl gX3_lowest_X0_breakCount ⟨_, rfl⟩ hd_X0_breakCount rfl dX3_lowest_15 rfl rfl (Nat.le_of_ble_eq_true rfl) ⟨Nat.le_of_ble_eq_true rfl, Nat.le_of_ble_eq_true rfl⟩ ⟨Nat.le_refl 0, Nat.le_refl 0⟩ hx hb hml hown hts hB hS hP hl.1 ?_
  refine W.eq (g2 := F0 m 18 ls [.int (f_X0_breakCount ((f_X0_carrierCount dC) - 1) dP)]) rfl ?_
  refine lv_istore (lv' := [(4, .int (f_X0_breakCount ((f_X0_carrierCount dC) - 1) dP)), (3, .int ((f_X0_carrierCount dC) - 1)), (0, .ref q_e), (1, .int x1), (2, .int x2)]) hx hb dX3_lowest_18 hl (by decide) rfl (fun ls hl => ?_)
  refine lv_iload_n hx hb dX3_lowest_20 rfl (lv_at hl 3 rfl) ?_
  refine lv_iconst (v := 1) hx hb dX3_lowest_21 (by decide) ?_
  refine lv_icmp_ne (tgt := 50) hx hb dX3_lowest_22 (by decide) (fun c_1 => ?_) (fun c_1 => ?_)
  · refine lv_aload_n hx hb dX3_lowest_50 rfl (lv_at hl 2 rfl) ?_
    refine va_get (D := gD G) (ci := 3) (v := .ref q_d) (C := RX3) (T := TX3) (N := 8) hx hb hts i_X3 hown hB.1 hP 5 rfl rfl 1 (by decide) t_0 (fun _ h9 => h9) rfl dX3_lowest_51 ?_
    refine lv_iload_n hx hb dX3_lowest_54 rfl (lv_at hl 1 rfl) ?_
    refine ro_V (ci := 0) (q0 := 0) (As := [.int ((f_X0_carrierCount dC) - 1)]) (rest := []) (c_X0_zonesCount l G q_d q_dA q_dB q_dZ q_dG q_dP q_dQ dC dM dL dD dQ ((f_X0_carrierCount dC) - 1)) [0, 4] rfl rfl rfl rfl gX3_lowest_X0_zonesCount ⟨_, rfl⟩ hd_X0_zonesCount rfl dX3_lowest_55 rfl rfl (Nat.le_of_ble_eq_true rfl) ⟨Nat.le_of_ble_eq_true rfl, Nat.le_of_ble_eq_true rfl⟩ ⟨Nat.le_refl 0, Nat.le_refl 0⟩ hx hb hml hown hts hB hS hP hl.1 ?_
    refine W.eq (g2 := F0 m 58 ls [.int (f_X0_zonesCount ((f_X0_carrierCount dC) - 1) dQ)]) rfl ?_
    refine lv_istore (lv' := [(5, .int (f_X0_zonesCount ((f_X0_carrierCount dC) - 1) dQ)), (4, .int (f_X0_breakCount ((f_X0_carrierCount dC) - 1) dP)), (3, .int ((f_X0_carrierCount dC) - 1)), (0, .ref q_e), (1, .int x1), (2, .int x2)]) hx hb dX3_lowest_58 hl (by decide) rfl (fun ls hl => ?_)
    refine lv_iload_n hx hb dX3_lowest_60 rfl (lv_at hl 4 rfl) ?_
    refine lv_iconst (v := 2) hx hb dX3_lowest_61 (by decide) ?_
    refine lv_icmp_ne (tgt := 90) hx hb dX3_lowest_62 (by decide) (fun c_2 => ?_) (fun c_2 => ?_)
    · refine va_gets hx hb (hB.2.2.1 4 _ rfl).1 hS hown t_1 (fun _ h9 => h9) dX3_lowest_90 ?_
      refine lv_iload_n hx hb dX3_lowest_93 rfl (lv_at hl 4 rfl) ?_
      refine lv_bipush (v := 6) hx hb dX3_lowest_94 (by decide) ?_
      refine lv_imul hx hb dX3_lowest_96 ?_
      refine lv_iload_n hx hb dX3_lowest_97 rfl (lv_at hl 5 rfl) ?_
      refine lv_iadd hx hb dX3_lowest_98 ?_
      refine ro_SN (As := [.ref (gS G 4), .int ((x1 * 6) + x2)]) (rest := []) (c_X6_at_S l G 4 RX3 "LOWEST" bgS4 rfl (by decide) ((x1 * 6) + x2)) [] rfl gX3_lowest_X6_at_n75 ⟨_, rfl⟩ hd_X6_at 9 rfl m_0 m_1 dX3_lowest_99 rfl rfl (Nat.le_of_ble_eq_true rfl) ⟨Nat.le_of_ble_eq_true rfl, Nat.le_of_ble_eq_true rfl⟩ ⟨Nat.le_refl 0, Nat.le_refl 0⟩ hx hb hml hown hts hB hS hP hl.1 ?_
      refine W.eq (g2 := F0 m 102 ls [.int (f_X6_at_S ((x1 * 6) + x2) bgS4)]) rfl ?_
      exact fi 102 _ (f_X6_at_S ((x1 * 6) + x2) bgS4) .int rfl rfl dX3_lowest_102 (by rw [f_X3_lowest, if_neg c_1, if_neg c_2])
    · refine lv_iload_n hx hb dX3_lowest_65 rfl (lv_at hl 5 rfl) ?_
      refine lv_if_ne (tgt := 90) hx hb dX3_lowest_66 (by decide) (fun c_3 => ?_) (fun c_3 => ?_)
      · refine va_gets hx hb (hB.2.2.1 4 _ rfl).1 hS hown t_1 (fun _ h9 => h9) dX3_lowest_90 ?_
        refine lv_iload_n hx hb dX3_lowest_93 rfl (lv_at hl 4 rfl) ?_
        refine lv_bipush (v := 6) hx hb dX3_lowest_94 (by decide) ?_
        refine lv_imul hx hb dX3_lowest_96 ?_
        refine lv_iload_n hx hb dX3_lowest_97 rfl (lv_at hl 5 rfl) ?_
        refine lv_iadd hx hb dX3_lowest_98 ?_
        refine ro_SN (As := [.ref (gS G 4), .int ((x1 * 6) + x2)]) (rest := []) (c_X6_at_S l G 4 RX3 "LOWEST" bgS4 rfl (by decide) ((x1 * 6) + x2)) [] rfl gX3_lowest_X6_at_n75 ⟨_, rfl⟩ hd_X6_at 9 rfl m_0 m_1 dX3_lowest_99 rfl rfl (Nat.le_of_ble_eq_true rfl) ⟨Nat.le_of_ble_eq_true rfl, Nat.le_of_ble_eq_true rfl⟩ ⟨Nat.le_refl 0, Nat.le_refl 0⟩ hx hb hml hown hts hB hS hP hl.1 ?_
        refine W.eq (g2 := F0 m 102 ls [.int (f_X6_at_S ((x1 * 6) + x2) bgS4)]) rfl ?_
        exact fi 102 _ (f_X6_at_S ((x1 * 6) + x2) bgS4) .int rfl rfl dX3_lowest_102 (by rw [f_X3_lowest, if_neg c_1, if_pos c_2, if_neg c_3])
      · refine lv_iload hx hb dX3_lowest_69 (lv_at hl 0 rfl) ?_
        refine lv_if_le (tgt := 90) hx hb dX3_lowest_71 (by decide) (fun c_4 => ?_) (fun c_4 => ?_)
        · refine va_gets hx hb (hB.2.2.1 4 _ rfl).1 hS hown t_1 (fun _ h9 => h9) dX3_lowest_90 ?_
          refine lv_iload_n hx hb dX3_lowest_93 rfl (lv_at hl 4 rfl) ?_
          refine lv_bipush (v := 6) hx hb dX3_lowest_94 (by decide) ?_
          refine lv_imul hx hb dX3_lowest_96 ?_
          refine lv_iload_n hx hb dX3_lowest_97 rfl (lv_at hl 5 rfl) ?_
          refine lv_iadd hx hb dX3_lowest_98 ?_
          refine ro_SN (As := [.ref (gS G 4), .int ((x1 * 6) + x2)]) (rest := []) (c_X6_at_S l G 4 RX3 "LOWEST" bgS4 rfl (by decide) ((x1 * 6) + x2)) [] rfl gX3_lowest_X6_at_n75 ⟨_, rfl⟩ hd_X6_at 9 rfl m_0 m_1 dX3_lowest_99 rfl rfl (Nat.le_of_ble_eq_true rfl) ⟨Nat.le_of_ble_eq_true rfl, Nat.le_of_ble_eq_true rfl⟩ ⟨Nat.le_refl 0, Nat.le_refl 0⟩ hx hb hml hown hts hB hS hP hl.1 ?_
          refine W.eq (g2 := F0 m 102 ls [.int (f_X6_at_S ((x1 * 6) + x2) bgS4)]) rfl ?_
          exact fi 102 _ (f_X6_at_S ((x1 * 6) + x2) bgS4) .int rfl rfl dX3_lowest_102 (by rw [f_X3_lowest, if_neg c_1, if_pos c_2, if_pos c_3, if_pos c_4])
        · refine lv_aload_n hx hb dX3_lowest_74 rfl (lv_at hl 3 rfl) ?_
          refine va_get (D := gD G) (ci := 3) (v := .ref q_d) (C := RX3) (T := TX3) (N := 8) hx hb hts i_X3 hown hB.1 hP 5 rfl rfl 1 (by decide) t_0 (fun _ h9 => h9) rfl dX3_lowest_75 ?_
          refine lv_iload_n hx hb dX3_lowest_78 rfl (lv_at hl 2 rfl) ?_
          refine lv_iload hx hb dX3_lowest_79 (lv_at hl 0 rfl) ?_
          refine lv_iconst (v := 1) hx hb dX3_lowest_81 (by decide) ?_
          refine lv_isub hx hb dX3_lowest_82 ?_
          refine lv_iconst (v := 0) hx hb dX3_lowest_83 (by decide) ?_
          refine ro_V (ci := 0) (q0 := 0) (As := [.int ((f_X0_carrierCount dC) - 1), .int ((f_X0_zonesCount ((f_X0_carrierCount dC) - 1) dQ) - 1), .int 0]) (rest := []) (c_X0_zonesNumber l G q_d q_dA q_dB q_dZ q_dG q_dP q_dQ dC dM dL dD dZ ((f_X0_carrierCount dC) - 1) ((f_X0_zonesCount ((f_X0_carrierCount dC) - 1) dQ) - 1) 0) [0, 2] rfl rfl rfl rfl gX3_lowest_X0_zonesNumber ⟨_, rfl⟩ hd_X0_zonesNumber rfl dX3_lowest_84 rfl rfl (Nat.le_of_ble_eq_true rfl) ⟨Nat.le_of_ble_eq_true rfl, Nat.le_of_ble_eq_true rfl⟩ ⟨Nat.le_refl 0, Nat.le_refl 0⟩ hx hb hml hown hts hB hS hP hl.1 ?_
          refine W.eq (g2 := F0 m 87 ls [.int (f_X0_zonesNumber ((f_X0_carrierCount dC) - 1) ((f_X0_zonesCount ((f_X0_carrierCount dC) - 1) dQ) - 1) 0 dZ)]) rfl ?_
          refine lv_iconst (v := 1) hx hb dX3_lowest_87 (by decide) ?_
          refine lv_iadd hx hb dX3_lowest_88 ?_
          exact fi 89 _ ((f_X0_zonesNumber ((f_X0_carrierCount dC) - 1) ((f_X0_zonesCount ((f_X0_carrierCount dC) - 1) dQ) - 1) 0 dZ) + 1) .int rfl rfl dX3_lowest_89 (by rw [f_X3_lowest, if_neg c_1, if_pos c_2, if_pos c_3, if_neg c_4])
  · refine lv_iload_n hx hb dX3_lowest_25 rfl (lv_at hl 4 rfl) ?_
    refine lv_if_ne (tgt := 50) hx hb dX3_lowest_26 (by decide) (fun c_5 => ?_) (fun c_5 => ?_)
    · refine lv_aload_n hx hb dX3_lowest_50 rfl (lv_at hl 2 rfl) ?_
      refine va_get (D := gD G) (ci := 3) (v := .ref q_d) (C := RX3) (T := TX3) (N := 8) hx hb hts i_X3 hown hB.1 hP 5 rfl rfl 1 (by decide) t_0 (fun _ h9 => h9) rfl dX3_lowest_51 ?_
      refine lv_iload_n hx hb dX3_lowest_54 rfl (lv_at hl 1 rfl) ?_
      refine ro_V (ci := 0) (q0 := 0) (As := [.int ((f_X0_carrierCount dC) - 1)]) (rest := []) (c_X0_zonesCount l G q_d q_dA q_dB q_dZ q_dG q_dP q_dQ dC dM dL dD dQ ((f_X0_carrierCount dC) - 1)) [0, 4] rfl rfl rfl rfl gX3_lowest_X0_zonesCount ⟨_, rfl⟩ hd_X0_zonesCount rfl dX3_lowest_55 rfl rfl (Nat.le_of_ble_eq_true rfl) ⟨Nat.le_of_ble_eq_true rfl, Nat.le_of_ble_eq_true rfl⟩ ⟨Nat.le_refl 0, Nat.le_refl 0⟩ hx hb hml hown hts hB hS hP hl.1 ?_
      refine W.eq (g2 := F0 m 58 ls [.int (f_X0_zonesCount ((f_X0_carrierCount dC) - 1) dQ)]) rfl ?_
      refine lv_istore (lv' := [(5, .int (f_X0_zonesCount ((f_X0_carrierCount dC) - 1) dQ)), (4, .int (f_X0_breakCount ((f_X0_carrierCount dC) - 1) dP)), (3, .int ((f_X0_carrierCount dC) - 1)), (0, .ref q_e), (1, .int x1), (2, .int x2)]) hx hb dX3_lowest_58 hl (by decide) rfl (fun ls hl => ?_)
      refine lv_iload_n hx hb dX3_lowest_60 rfl (lv_at hl 4 rfl) ?_
      refine lv_iconst (v := 2) hx hb dX3_lowest_61 (by decide) ?_
      refine lv_icmp_ne (tgt := 90) hx hb dX3_lowest_62 (by decide) (fun c_6 => ?_) (fun c_6 => ?_)
      · refine va_gets hx hb (hB.2.2.1 4 _ rfl).1 hS hown t_1 (fun _ h9 => h9) dX3_lowest_90 ?_
        refine lv_iload_n hx hb dX3_lowest_93 rfl (lv_at hl 4 rfl) ?_
        refine lv_bipush (v := 6) hx hb dX3_lowest_94 (by decide) ?_
        refine lv_imul hx hb dX3_lowest_96 ?_
        refine lv_iload_n hx hb dX3_lowest_97 rfl (lv_at hl 5 rfl) ?_
        refine lv_iadd hx hb dX3_lowest_98 ?_
        refine ro_SN (As := [.ref (gS G 4), .int ((x1 * 6) + x2)]) (rest := []) (c_X6_at_S l G 4 RX3 "LOWEST" bgS4 rfl (by decide) ((x1 * 6) + x2)) [] rfl gX3_lowest_X6_at_n75 ⟨_, rfl⟩ hd_X6_at 9 rfl m_0 m_1 dX3_lowest_99 rfl rfl (Nat.le_of_ble_eq_true rfl) ⟨Nat.le_of_ble_eq_true rfl, Nat.le_of_ble_eq_true rfl⟩ ⟨Nat.le_refl 0, Nat.le_refl 0⟩ hx hb hml hown hts hB hS hP hl.1 ?_
        refine W.eq (g2 := F0 m 102 ls [.int (f_X6_at_S ((x1 * 6) + x2) bgS4)]) rfl ?_
        exact fi 102 _ (f_X6_at_S ((x1 * 6) + x2) bgS4) .int rfl rfl dX3_lowest_102 (by rw [f_X3_lowest, if_pos c_1, if_neg c_5, if_neg c_6])
      · refine lv_iload_n hx hb dX3_lowest_65 rfl (lv_at hl 5 rfl) ?_
        refine lv_if_ne (tgt := 90) hx hb dX3_lowest_66 (by decide) (fun c_7 => ?_) (fun c_7 => ?_)
        · refine va_gets hx hb (hB.2.2.1 4 _ rfl).1 hS hown t_1 (fun _ h9 => h9) dX3_lowest_90 ?_
          refine lv_iload_n hx hb dX3_lowest_93 rfl (lv_at hl 4 rfl) ?_
          refine lv_bipush (v := 6) hx hb dX3_lowest_94 (by decide) ?_
          refine lv_imul hx hb dX3_lowest_96 ?_
          refine lv_iload_n hx hb dX3_lowest_97 rfl (lv_at hl 5 rfl) ?_
          refine lv_iadd hx hb dX3_lowest_98 ?_
          refine ro_SN (As := [.ref (gS G 4), .int ((x1 * 6) + x2)]) (rest := []) (c_X6_at_S l G 4 RX3 "LOWEST" bgS4 rfl (by decide) ((x1 * 6) + x2)) [] rfl gX3_lowest_X6_at_n75 ⟨_, rfl⟩ hd_X6_at 9 rfl m_0 m_1 dX3_lowest_99 rfl rfl (Nat.le_of_ble_eq_true rfl) ⟨Nat.le_of_ble_eq_true rfl, Nat.le_of_ble_eq_true rfl⟩ ⟨Nat.le_refl 0, Nat.le_refl 0⟩ hx hb hml hown hts hB hS hP hl.1 ?_
          refine W.eq (g2 := F0 m 102 ls [.int (f_X6_at_S ((x1 * 6) + x2) bgS4)]) rfl ?_
          exact fi 102 _ (f_X6_at_S ((x1 * 6) + x2) bgS4) .int rfl rfl dX3_lowest_102 (by rw [f_X3_lowest, if_pos c_1, if_neg c_5, if_pos c_6, if_neg c_7])
        · refine lv_iload hx hb dX3_lowest_69 (lv_at hl 0 rfl) ?_
          refine lv_if_le (tgt := 90) hx hb dX3_lowest_71 (by decide) (fun c_8 => ?_) (fun c_8 => ?_)
          · refine va_gets hx hb (hB.2.2.1 4 _ rfl).1 hS hown t_1 (fun _ h9 => h9) dX3_lowest_90 ?_
            refine lv_iload_n hx hb dX3_lowest_93 rfl (lv_at hl 4 rfl) ?_
            refine lv_bipush (v := 6) hx hb dX3_lowest_94 (by decide) ?_
            refine lv_imul hx hb dX3_lowest_96 ?_
            refine lv_iload_n hx hb dX3_lowest_97 rfl (lv_at hl 5 rfl) ?_
            refine lv_iadd hx hb dX3_lowest_98 ?_
            refine ro_SN (As := [.ref (gS G 4), .int ((x1 * 6) + x2)]) (rest := []) (c_X6_at_S l G 4 RX3 "LOWEST" bgS4 rfl (by decide) ((x1 * 6) + x2)) [] rfl gX3_lowest_X6_at_n75 ⟨_, rfl⟩ hd_X6_at 9 rfl m_0 m_1 dX3_lowest_99 rfl rfl (Nat.le_of_ble_eq_true rfl) ⟨Nat.le_of_ble_eq_true rfl, Nat.le_of_ble_eq_true rfl⟩ ⟨Nat.le_refl 0, Nat.le_refl 0⟩ hx hb hml hown hts hB hS hP hl.1 ?_
            refine W.eq (g2 := F0 m 102 ls [.int (f_X6_at_S ((x1 * 6) + x2) bgS4)]) rfl ?_
            exact fi 102 _ (f_X6_at_S ((x1 * 6) + x2) bgS4) .int rfl rfl dX3_lowest_102 (by rw [f_X3_lowest, if_pos c_1, if_neg c_5, if_pos c_6, if_pos c_7, if_pos c_8])
          · refine lv_aload_n hx hb dX3_lowest_74 rfl (lv_at hl 3 rfl) ?_
            refine va_get (D := gD G) (ci := 3) (v := .ref q_d) (C := RX3) (T := TX3) (N := 8) hx hb hts i_X3 hown hB.1 hP 5 rfl rfl 1 (by decide) t_0 (fun _ h9 => h9) rfl dX3_lowest_75 ?_
            refine lv_iload_n hx hb dX3_lowest_78 rfl (lv_at hl 2 rfl) ?_
            refine lv_iload hx hb dX3_lowest_79 (lv_at hl 0 rfl) ?_
            refine lv_iconst (v := 1) hx hb dX3_lowest_81 (by decide) ?_
            refine lv_isub hx hb dX3_lowest_82 ?_
            refine lv_iconst (v := 0) hx hb dX3_lowest_83 (by decide) ?_
            refine ro_V (ci := 0) (q0 := 0) (As := [.int ((f_X0_carrierCount dC) - 1), .int ((f_X0_zonesCount ((f_X0_carrierCount dC) - 1) dQ) - 1), .int 0]) (rest := []) (c_X0_zonesNumber l G q_d q_dA q_dB q_dZ q_dG q_dP q_dQ dC dM dL dD dZ ((f_X0_carrierCount dC) - 1) ((f_X0_zonesCount ((f_X0_carrierCount dC) - 1) dQ) - 1) 0) [0, 2] rfl rfl rfl rfl gX3_lowest_X0_zonesNumber ⟨_, rfl⟩ hd_X0_zonesNumber rfl dX3_lowest_84 rfl rfl (Nat.le_of_ble_eq_true rfl) ⟨Nat.le_of_ble_eq_true rfl, Nat.le_of_ble_eq_true rfl⟩ ⟨Nat.le_refl 0, Nat.le_refl 0⟩ hx hb hml hown hts hB hS hP hl.1 ?_
            refine W.eq (g2 := F0 m 87 ls [.int (f_X0_zonesNumber ((f_X0_carrierCount dC) - 1) ((f_X0_zonesCount ((f_X0_carrierCount dC) - 1) dQ) - 1) 0 dZ)]) rfl ?_
            refine lv_iconst (v := 1) hx hb dX3_lowest_87 (by decide) ?_
            refine lv_iadd hx hb dX3_lowest_88 ?_
            exact fi 89 _ ((f_X0_zonesNumber ((f_X0_carrierCount dC) - 1) ((f_X0_zonesCount ((f_X0_carrierCount dC) - 1) dQ) - 1) 0 dZ) + 1) .int rfl rfl dX3_lowest_89 (by rw [f_X3_lowest, if_pos c_1, if_neg c_5, if_pos c_6, if_pos c_7, if_neg c_8])
    · refine lv_iload hx hb dX3_lowest_29 (lv_at hl 0 rfl) ?_
      refine lv_if_le (tgt := 50) hx hb dX3_lowest_31 (by decide) (fun c_9 => ?_) (fun c_9 => ?_)
      · refine lv_aload_n hx hb dX3_lowest_50 rfl (lv_at hl 2 rfl) ?_
        refine va_get (D := gD G) (ci := 3) (v := .ref q_d) (C := RX3) (T := TX3) (N := 8) hx hb hts i_X3 hown hB.1 hP 5 rfl rfl 1 (by decide) t_0 (fun _ h9 => h9) rfl dX3_lowest_51 ?_
        refine lv_iload_n hx hb dX3_lowest_54 rfl (lv_at hl 1 rfl) ?_
        refine ro_V (ci := 0) (q0 := 0) (As := [.int ((f_X0_carrierCount dC) - 1)]) (rest := []) (c_X0_zonesCount l G q_d q_dA q_dB q_dZ q_dG q_dP q_dQ dC dM dL dD dQ ((f_X0_carrierCount dC) - 1)) [0, 4] rfl rfl rfl rfl gX3_lowest_X0_zonesCount ⟨_, rfl⟩ hd_X0_zonesCount rfl dX3_lowest_55 rfl rfl (Nat.le_of_ble_eq_true rfl) ⟨Nat.le_of_ble_eq_true rfl, Nat.le_of_ble_eq_true rfl⟩ ⟨Nat.le_refl 0, Nat.le_refl 0⟩ hx hb hml hown hts hB hS hP hl.1 ?_
        refine W.eq (g2 := F0 m 58 ls [.int (f_X0_zonesCount ((f_X0_carrierCount dC) - 1) dQ)]) rfl ?_
        refine lv_istore (lv' := [(5, .int (f_X0_zonesCount ((f_X0_carrierCount dC) - 1) dQ)), (4, .int (f_X0_breakCount ((f_X0_carrierCount dC) - 1) dP)), (3, .int ((f_X0_carrierCount dC) - 1)), (0, .ref q_e), (1, .int x1), (2, .int x2)]) hx hb dX3_lowest_58 hl (by decide) rfl (fun ls hl => ?_)
        refine lv_iload_n hx hb dX3_lowest_60 rfl (lv_at hl 4 rfl) ?_
        refine lv_iconst (v := 2) hx hb dX3_lowest_61 (by decide) ?_
        refine lv_icmp_ne (tgt := 90) hx hb dX3_lowest_62 (by decide) (fun c_10 => ?_) (fun c_10 => ?_)
        · refine va_gets hx hb (hB.2.2.1 4 _ rfl).1 hS hown t_1 (fun _ h9 => h9) dX3_lowest_90 ?_
          refine lv_iload_n hx hb dX3_lowest_93 rfl (lv_at hl 4 rfl) ?_
          refine lv_bipush (v := 6) hx hb dX3_lowest_94 (by decide) ?_
          refine lv_imul hx hb dX3_lowest_96 ?_
          refine lv_iload_n hx hb dX3_lowest_97 rfl (lv_at hl 5 rfl) ?_
          refine lv_iadd hx hb dX3_lowest_98 ?_
          refine ro_SN (As := [.ref (gS G 4), .int ((x1 * 6) + x2)]) (rest := []) (c_X6_at_S l G 4 RX3 "LOWEST" bgS4 rfl (by decide) ((x1 * 6) + x2)) [] rfl gX3_lowest_X6_at_n75 ⟨_, rfl⟩ hd_X6_at 9 rfl m_0 m_1 dX3_lowest_99 rfl rfl (Nat.le_of_ble_eq_true rfl) ⟨Nat.le_of_ble_eq_true rfl, Nat.le_of_ble_eq_true rfl⟩ ⟨Nat.le_refl 0, Nat.le_refl 0⟩ hx hb hml hown hts hB hS hP hl.1 ?_
          refine W.eq (g2 := F0 m 102 ls [.int (f_X6_at_S ((x1 * 6) + x2) bgS4)]) rfl ?_
          exact fi 102 _ (f_X6_at_S ((x1 * 6) + x2) bgS4) .int rfl rfl dX3_lowest_102 (by rw [f_X3_lowest, if_pos c_1, if_pos c_5, if_pos c_9, if_neg c_10])
        · refine lv_iload_n hx hb dX3_lowest_65 rfl (lv_at hl 5 rfl) ?_
          refine lv_if_ne (tgt := 90) hx hb dX3_lowest_66 (by decide) (fun c_11 => ?_) (fun c_11 => ?_)
          · refine va_gets hx hb (hB.2.2.1 4 _ rfl).1 hS hown t_1 (fun _ h9 => h9) dX3_lowest_90 ?_
            refine lv_iload_n hx hb dX3_lowest_93 rfl (lv_at hl 4 rfl) ?_
            refine lv_bipush (v := 6) hx hb dX3_lowest_94 (by decide) ?_
            refine lv_imul hx hb dX3_lowest_96 ?_
            refine lv_iload_n hx hb dX3_lowest_97 rfl (lv_at hl 5 rfl) ?_
            refine lv_iadd hx hb dX3_lowest_98 ?_
            refine ro_SN (As := [.ref (gS G 4), .int ((x1 * 6) + x2)]) (rest := []) (c_X6_at_S l G 4 RX3 "LOWEST" bgS4 rfl (by decide) ((x1 * 6) + x2)) [] rfl gX3_lowest_X6_at_n75 ⟨_, rfl⟩ hd_X6_at 9 rfl m_0 m_1 dX3_lowest_99 rfl rfl (Nat.le_of_ble_eq_true rfl) ⟨Nat.le_of_ble_eq_true rfl, Nat.le_of_ble_eq_true rfl⟩ ⟨Nat.le_refl 0, Nat.le_refl 0⟩ hx hb hml hown hts hB hS hP hl.1 ?_
            refine W.eq (g2 := F0 m 102 ls [.int (f_X6_at_S ((x1 * 6) + x2) bgS4)]) rfl ?_
            exact fi 102 _ (f_X6_at_S ((x1 * 6) + x2) bgS4) .int rfl rfl dX3_lowest_102 (by rw [f_X3_lowest, if_pos c_1, if_pos c_5, if_pos c_9, if_pos c_10, if_neg c_11])
          · refine lv_iload hx hb dX3_lowest_69 (lv_at hl 0 rfl) ?_
            refine lv_if_le (tgt := 90) hx hb dX3_lowest_71 (by decide) (fun c_12 => ?_) (fun c_12 => ?_)
            · refine va_gets hx hb (hB.2.2.1 4 _ rfl).1 hS hown t_1 (fun _ h9 => h9) dX3_lowest_90 ?_
              refine lv_iload_n hx hb dX3_lowest_93 rfl (lv_at hl 4 rfl) ?_
              refine lv_bipush (v := 6) hx hb dX3_lowest_94 (by decide) ?_
              refine lv_imul hx hb dX3_lowest_96 ?_
              refine lv_iload_n hx hb dX3_lowest_97 rfl (lv_at hl 5 rfl) ?_
              refine lv_iadd hx hb dX3_lowest_98 ?_
              refine ro_SN (As := [.ref (gS G 4), .int ((x1 * 6) + x2)]) (rest := []) (c_X6_at_S l G 4 RX3 "LOWEST" bgS4 rfl (by decide) ((x1 * 6) + x2)) [] rfl gX3_lowest_X6_at_n75 ⟨_, rfl⟩ hd_X6_at 9 rfl m_0 m_1 dX3_lowest_99 rfl rfl (Nat.le_of_ble_eq_true rfl) ⟨Nat.le_of_ble_eq_true rfl, Nat.le_of_ble_eq_true rfl⟩ ⟨Nat.le_refl 0, Nat.le_refl 0⟩ hx hb hml hown hts hB hS hP hl.1 ?_
              refine W.eq (g2 := F0 m 102 ls [.int (f_X6_at_S ((x1 * 6) + x2) bgS4)]) rfl ?_
              exact fi 102 _ (f_X6_at_S ((x1 * 6) + x2) bgS4) .int rfl rfl dX3_lowest_102 (by rw [f_X3_lowest, if_pos c_1, if_pos c_5, if_pos c_9, if_pos c_10, if_pos c_11, if_pos c_12])
            · refine lv_aload_n hx hb dX3_lowest_74 rfl (lv_at hl 3 rfl) ?_
              refine va_get (D := gD G) (ci := 3) (v := .ref q_d) (C := RX3) (T := TX3) (N := 8) hx hb hts i_X3 hown hB.1 hP 5 rfl rfl 1 (by decide) t_0 (fun _ h9 => h9) rfl dX3_lowest_75 ?_
              refine lv_iload_n hx hb dX3_lowest_78 rfl (lv_at hl 2 rfl) ?_
              refine lv_iload hx hb dX3_lowest_79 (lv_at hl 0 rfl) ?_
              refine lv_iconst (v := 1) hx hb dX3_lowest_81 (by decide) ?_
              refine lv_isub hx hb dX3_lowest_82 ?_
              refine lv_iconst (v := 0) hx hb dX3_lowest_83 (by decide) ?_
              refine ro_V (ci := 0) (q0 := 0) (As := [.int ((f_X0_carrierCount dC) - 1), .int ((f_X0_zonesCount ((f_X0_carrierCount dC) - 1) dQ) - 1), .int 0]) (rest := []) (c_X0_zonesNumber l G q_d q_dA q_dB q_dZ q_dG q_dP q_dQ dC dM dL dD dZ ((f_X0_carrierCount dC) - 1) ((f_X0_zonesCount ((f_X0_carrierCount dC) - 1) dQ) - 1) 0) [0, 2] rfl rfl rfl rfl gX3_lowest_X0_zonesNumber ⟨_, rfl⟩ hd_X0_zonesNumber rfl dX3_lowest_84 rfl rfl (Nat.le_of_ble_eq_true rfl) ⟨Nat.le_of_ble_eq_true rfl, Nat.le_of_ble_eq_true rfl⟩ ⟨Nat.le_refl 0, Nat.le_refl 0⟩ hx hb hml hown hts hB hS hP hl.1 ?_
              refine W.eq (g2 := F0 m 87 ls [.int (f_X0_zonesNumber ((f_X0_carrierCount dC) - 1) ((f_X0_zonesCount ((f_X0_carrierCount dC) - 1) dQ) - 1) 0 dZ)]) rfl ?_
              refine lv_iconst (v := 1) hx hb dX3_lowest_87 (by decide) ?_
              refine lv_iadd hx hb dX3_lowest_88 ?_
              exact fi 89 _ ((f_X0_zonesNumber ((f_X0_carrierCount dC) - 1) ((f_X0_zonesCount ((f_X0_carrierCount dC) - 1) dQ) - 1) 0 dZ) + 1) .int rfl rfl dX3_lowest_89 (by rw [f_X3_lowest, if_pos c_1, if_pos c_5, if_pos c_9, if_pos c_10, if_pos c_11, if_neg c_12])
      · refine lv_aload_n hx hb dX3_lowest_34 rfl (lv_at hl 2 rfl) ?_
        refine va_get (D := gD G) (ci := 3) (v := .ref q_d) (C := RX3) (T := TX3) (N := 8) hx hb hts i_X3 hown hB.1 hP 5 rfl rfl 1 (by decide) t_0 (fun _ h9 => h9) rfl dX3_lowest_35 ?_
        refine lv_iload_n hx hb dX3_lowest_38 rfl (lv_at hl 1 rfl) ?_
        refine lv_iload hx hb dX3_lowest_39 (lv_at hl 0 rfl) ?_
        refine lv_iconst (v := 1) hx hb dX3_lowest_41 (by decide) ?_
        refine lv_isub hx hb dX3_lowest_42 ?_
        refine lv_iconst (v := 0) hx hb dX3_lowest_43 (by decide) ?_
        refine ro_V (ci := 0) (q0 := 0) (As := [.int ((f_X0_carrierCount dC) - 1), .int ((f_X0_breakCount ((f_X0_carrierCount dC) - 1) dP) - 1), .int 0]) (rest := []) (c_X0_breakNumber l G q_d q_dA q_dB q_dZ q_dG q_dP q_dQ dC dM dL dD dB ((f_X0_carrierCount dC) - 1) ((f_X0_breakCount ((f_X0_carrierCount dC) - 1) dP) - 1) 0) [0, 1] rfl rfl rfl rfl gX3_lowest_X0_breakNumber ⟨_, rfl⟩ hd_X0_breakNumber rfl dX3_lowest_44 rfl rfl (Nat.le_of_ble_eq_true rfl) ⟨Nat.le_of_ble_eq_true rfl, Nat.le_of_ble_eq_true rfl⟩ ⟨Nat.le_refl 0, Nat.le_refl 0⟩ hx hb hml hown hts hB hS hP hl.1 ?_
        refine W.eq (g2 := F0 m 47 ls [.int (f_X0_breakNumber ((f_X0_carrierCount dC) - 1) ((f_X0_breakCount ((f_X0_carrierCount dC) - 1) dP) - 1) 0 dB)]) rfl ?_
        refine lv_iconst (v := 1) hx hb dX3_lowest_47 (by decide) ?_
        refine lv_iadd hx hb dX3_lowest_48 ?_
        exact fi 49 _ ((f_X0_breakNumber ((f_X0_carrierCount dC) - 1) ((f_X0_breakCount ((f_X0_carrierCount dC) - 1) dP) - 1) 0 dB) + 1) .int rfl rfl dX3_lowest_49 (by rw [f_X3_lowest, if_pos c_1, if_pos c_5, if_neg c_9])

noncomputable def f_X3_highest (x1 : Int32) (x2 : Int32) (dQ : Nat → Int32) (dC : Int32) : Int32 := (if x1 = 2 then (if x2 = 0 then (if (f_X0_zonesCount ((f_X0_carrierCount dC) - 1) dQ) = 0 then 0 else (f_X6_at_S ((x1 * 6) + x2) bgS5)) else (f_X6_at_S ((x1 * 6) + x2) bgS5)) else (f_X6_at_S ((x1 * 6) + x2) bgS5))
theorem hd_X3_highest : yX3_highest.cls ≠ "java/lang/invoke/MethodHandle" ∧ yX3_highest.cls ≠ "java/lang/invoke/VarHandle" ∧ (parseMethodDescriptor yX3_highest.desc).map (fun d => d.parameters.length) = some 2 := by decide +kernel
set_option maxHeartbeats 4000000 in
set_option maxRecDepth 100000 in
theorem c_X3_highest (l : Launch) (G : BGT) (q_d q_dA q_dB q_dZ q_dG q_dP q_dQ q_e q_t q_eN : Nat) (dC : Int32) (dM : Int32) (dL : Int32) (dD : Int32) (dQ : Nat → Int32) (eF : Int32) (eK : Int32) (eS : Int32) (eE : Int32) (eU : Int32) (x1 : Int32) (x2 : Int32) : RO l yX3_highest wsX3_highest 2 G [oX0 q_d q_dA q_dB q_dZ q_dG q_dP q_dQ dC dM dL dD, aI G q_dQ 3 dQ, oX3 q_e q_t q_d q_eN eF eK eS eE eU] [.ref q_e, .int x1, .int x2] (some (.int (f_X3_highest x1 x2 dQ dC))) := by
  refine RO.ofW (cc := cX3_highest) (maxL := 3) (ret := (some .int)) (C := RX3) (by decide) rfl rfl (Nat.le_of_ble_eq_true rfl) ?_
  intro p e s m args below meth c Q ls hx hb hml hts hown hP hB hl fi fl fv
  have hS : va_S (fun _ => False) s.heap s.heap [] := va_S.rf
  have hl : lv_has ls 3 [(0, .ref q_e), (1, .int x1), (2, .int x2)] := hl
  have t_0 := hts (.fieldLink RX3 119 "ParcelSplit$Reader" "HIGHEST" "[I") (by decide +kernel)
  have t_1 := hts (.fieldLink RX3 19 "ParcelSplit$Reader" "draft" "LParcelSplit$Book;") (by decide +kernel)
  have m_0 : Cond.initialized RX6 ∈ wsX3_highest := by decide +kernel
  have m_1 : Cond.static yX6_at ∈ wsX3_highest := by decide +kernel
  have i_X3 : ∀ w ∈ wsX30, w ∈ wsX3_highest := by decide +kernel
  refine lv_iload_n hx hb dX3_highest_0 rfl (lv_at hl 1 rfl) ?_
  refine lv_iconst (v := 2) hx hb dX3_highest_1 (by decide) ?_
  refine lv_icmp_ne (tgt := 30) hx hb dX3_highest_2 (by decide) (fun c_1 => ?_) (fun c_1 => ?_)
  · refine va_gets hx hb (hB.2.2.1 5 _ rfl).1 hS hown t_0 (fun _ h9 => h9) dX3_highest_30 ?_
    refine lv_iload_n hx hb dX3_highest_33 rfl (lv_at hl 1 rfl) ?_
    refine lv_bipush (v := 6) hx hb dX3_highest_34 (by decide) ?_
    refine lv_imul hx hb dX3_highest_36 ?_
    refine lv_iload_n hx hb dX3_highest_37 rfl (lv_at hl 2 rfl) ?_
    refine lv_iadd hx hb dX3_highest_38 ?_
    refine ro_SN (As := [.ref (gS G 5), .int ((x1 * 6) + x2)]) (rest := []) (c_X6_at_S l G 5 RX3 "HIGHEST" bgS5 rfl (by decide) ((x1 * 6) + x2)) [] rfl gX3_highest_X6_at_n75 ⟨_, rfl⟩ hd_X6_at 9 rfl m_0 m_1 dX3_highest_39 rfl rfl (Nat.le_of_ble_eq_true rfl) ⟨Nat.le_of_ble_eq_true rfl, Nat.le_of_ble_eq_true rfl⟩ ⟨Nat.le_refl 0, Nat.le_refl 0⟩ hx hb hml hown hts hB hS hP hl.1 ?_
    refine W.eq (g2 := F0 m 42 ls [.int (f_X6_at_S ((x1 * 6) + x2) bgS5)]) rfl ?_
    exact fi 42 _ (f_X6_at_S ((x1 * 6) + x2) bgS5) .int rfl rfl dX3_highest_42 (by rw [f_X3_highest, if_neg c_1])
  · refine lv_iload_n hx hb dX3_highest_5 rfl (lv_at hl 2 rfl) ?_
    refine lv_if_ne (tgt := 30) hx hb dX3_highest_6 (by decide) (fun c_2 => ?_) (fun c_2 => ?_)
    · refine va_gets hx hb (hB.2.2.1 5 _ rfl).1 hS hown t_0 (fun _ h9 => h9) dX3_highest_30 ?_
      refine lv_iload_n hx hb dX3_highest_33 rfl (lv_at hl 1 rfl) ?_
      refine lv_bipush (v := 6) hx hb dX3_highest_34 (by decide) ?_
      refine lv_imul hx hb dX3_highest_36 ?_
      refine lv_iload_n hx hb dX3_highest_37 rfl (lv_at hl 2 rfl) ?_
      refine lv_iadd hx hb dX3_highest_38 ?_
      refine ro_SN (As := [.ref (gS G 5), .int ((x1 * 6) + x2)]) (rest := []) (c_X6_at_S l G 5 RX3 "HIGHEST" bgS5 rfl (by decide) ((x1 * 6) + x2)) [] rfl gX3_highest_X6_at_n75 ⟨_, rfl⟩ hd_X6_at 9 rfl m_0 m_1 dX3_highest_39 rfl rfl (Nat.le_of_ble_eq_true rfl) ⟨Nat.le_of_ble_eq_true rfl, Nat.le_of_ble_eq_true rfl⟩ ⟨Nat.le_refl 0, Nat.le_refl 0⟩ hx hb hml hown hts hB hS hP hl.1 ?_
      refine W.eq (g2 := F0 m 42 ls [.int (f_X6_at_S ((x1 * 6) + x2) bgS5)]) rfl ?_
      exact fi 42 _ (f_X6_at_S ((x1 * 6) + x2) bgS5) .int rfl rfl dX3_highest_42 (by rw [f_X3_highest, if_pos c_1, if_neg c_2])
    · refine lv_aload_n hx hb dX3_highest_9 rfl (lv_at hl 0 rfl) ?_
      refine va_get (D := gD G) (ci := 3) (v := .ref q_d) (C := RX3) (T := TX3) (N := 8) hx hb hts i_X3 hown hB.1 hP 2 rfl rfl 1 (by decide) t_1 (fun _ h9 => h9) rfl dX3_highest_10 ?_
      refine lv_aload_n hx hb dX3_highest_13 rfl (lv_at hl 0 rfl) ?_
      refine va_get (D := gD G) (ci := 3) (v := .ref q_d) (C := RX3) (T := TX3) (N := 8) hx hb hts i_X3 hown hB.1 hP 2 rfl rfl 1 (by decide) t_1 (fun _ h9 => h9) rfl dX3_highest_14 ?_
      refine ro_V (ci := 0) (q0 := 0) (As := []) (rest := [.ref q_d]) (c_X0_carrierCount l G q_d q_dA q_dB q_dZ q_dG q_dP q_dQ dC dM dL dD) [0] rfl rfl rfl rfl gX3_highest_X0_carrierCount ⟨_, rfl⟩ hd_X0_carrierCount rfl dX3_highest_17 rfl rfl (Nat.le_of_ble_eq_true rfl) ⟨Nat.le_of_ble_eq_true rfl, Nat.le_of_ble_eq_true rfl⟩ ⟨Nat.le_refl 0, Nat.le_refl 0⟩ hx hb hml hown hts hB hS hP hl.1 ?_
      refine W.eq (g2 := F0 m 20 ls [.int (f_X0_carrierCount dC), .ref q_d]) rfl ?_
      refine lv_iconst (v := 1) hx hb dX3_highest_20 (by decide) ?_
      refine lv_isub hx hb dX3_highest_21 ?_
      refine ro_V (ci := 0) (q0 := 0) (As := [.int ((f_X0_carrierCount dC) - 1)]) (rest := []) (c_X0_zonesCount l G q_d q_dA q_dB q_dZ q_dG q_dP q_dQ dC dM dL dD dQ ((f_X0_carrierCount dC) - 1)) [0, 1] rfl rfl rfl rfl gX3_highest_X0_zonesCount ⟨_, rfl⟩ hd_X0_zonesCount rfl dX3_highest_22 rfl rfl (Nat.le_of_ble_eq_true rfl) ⟨Nat.le_of_ble_eq_true rfl, Nat.le_of_ble_eq_true rfl⟩ ⟨Nat.le_refl 0, Nat.le_refl 0⟩ hx hb hml hown hts hB hS hP hl.1 ?_
      refine W.eq (g2 := F0 m 25 ls [.int (f_X0_zonesCount ((f_X0_carrierCount dC) - 1) dQ)]) rfl ?_
      refine lv_if_ne (tgt := 30) hx hb dX3_highest_25 (by decide) (fun c_3 => ?_) (fun c_3 => ?_)
      · refine va_gets hx hb (hB.2.2.1 5 _ rfl).1 hS hown t_0 (fun _ h9 => h9) dX3_highest_30 ?_
        refine lv_iload_n hx hb dX3_highest_33 rfl (lv_at hl 1 rfl) ?_
        refine lv_bipush (v := 6) hx hb dX3_highest_34 (by decide) ?_
        refine lv_imul hx hb dX3_highest_36 ?_
        refine lv_iload_n hx hb dX3_highest_37 rfl (lv_at hl 2 rfl) ?_
        refine lv_iadd hx hb dX3_highest_38 ?_
        refine ro_SN (As := [.ref (gS G 5), .int ((x1 * 6) + x2)]) (rest := []) (c_X6_at_S l G 5 RX3 "HIGHEST" bgS5 rfl (by decide) ((x1 * 6) + x2)) [] rfl gX3_highest_X6_at_n75 ⟨_, rfl⟩ hd_X6_at 9 rfl m_0 m_1 dX3_highest_39 rfl rfl (Nat.le_of_ble_eq_true rfl) ⟨Nat.le_of_ble_eq_true rfl, Nat.le_of_ble_eq_true rfl⟩ ⟨Nat.le_refl 0, Nat.le_refl 0⟩ hx hb hml hown hts hB hS hP hl.1 ?_
        refine W.eq (g2 := F0 m 42 ls [.int (f_X6_at_S ((x1 * 6) + x2) bgS5)]) rfl ?_
        exact fi 42 _ (f_X6_at_S ((x1 * 6) + x2) bgS5) .int rfl rfl dX3_highest_42 (by rw [f_X3_highest, if_pos c_1, if_pos c_2, if_neg c_3])
      · refine lv_iconst (v := 0) hx hb dX3_highest_28 (by decide) ?_
        exact fi 29 _ 0 .int rfl rfl dX3_highest_29 (by rw [f_X3_highest, if_pos c_1, if_pos c_2, if_pos c_3])

noncomputable def f_X3_readNumber (x1 : Int32) (x2 : Int32) (tB : Nat → Int32) (tN : Int32) (eF : Int32) (eE : Int32) (eU : Int32) : Int32 × Int32 × Int32 × Int32 × Int32 × Int32 := (if ((f_X3_advance tB tN eE eU).1) = 3 then (if ((f_X3_advance tB tN eE eU).2.2.2) < x1 then (if ((f_X3_fails 2).1) = 0 then (0, ((f_X3_fails 2).2), ((f_X3_advance tB tN eE eU).1), ((f_X3_advance tB tN eE eU).2.1), ((f_X3_advance tB tN eE eU).2.2.1), ((f_X3_advance tB tN eE eU).2.2.2)) else (1, ((f_X3_fails 2).2), ((f_X3_advance tB tN eE eU).1), ((f_X3_advance tB tN eE eU).2.1), ((f_X3_advance tB tN eE eU).2.2.1), ((f_X3_advance tB tN eE eU).2.2.2))) else (if ((f_X3_advance tB tN eE eU).2.2.2) ≤ x2 then (1, eF, ((f_X3_advance tB tN eE eU).1), ((f_X3_advance tB tN eE eU).2.1), ((f_X3_advance tB tN eE eU).2.2.1), ((f_X3_advance tB tN eE eU).2.2.2)) else (if ((f_X3_fails 2).1) = 0 then (0, ((f_X3_fails 2).2), ((f_X3_advance tB tN eE eU).1), ((f_X3_advance tB tN eE eU).2.1), ((f_X3_advance tB tN eE eU).2.2.1), ((f_X3_advance tB tN eE eU).2.2.2)) else (1, ((f_X3_fails 2).2), ((f_X3_advance tB tN eE eU).1), ((f_X3_advance tB tN eE eU).2.1), ((f_X3_advance tB tN eE eU).2.2.1), ((f_X3_advance tB tN eE eU).2.2.2))))) else (((f_X3_fails 1).1), ((f_X3_fails 1).2), ((f_X3_advance tB tN eE eU).1), ((f_X3_advance tB tN eE eU).2.1), ((f_X3_advance tB tN eE eU).2.2.1), ((f_X3_advance tB tN eE eU).2.2.2)))
noncomputable def k_X3_readNumber (tB : Nat → Int32) (tN : Int32) (eE : Int32) (eU : Int32) : Prop := (k_X3_advance tB tN eE ∧ (if ((f_X3_advance tB tN eE eU).1) = 3 then True else ((((f_X3_fails 1).1) = 0 ∨ ((f_X3_fails 1).1) = 1) ∧ True)))
theorem hd_X3_readNumber : yX3_readNumber.cls ≠ "java/lang/invoke/MethodHandle" ∧ yX3_readNumber.cls ≠ "java/lang/invoke/VarHandle" ∧ (parseMethodDescriptor yX3_readNumber.desc).map (fun d => d.parameters.length) = some 2 := by decide +kernel
set_option maxHeartbeats 4000000 in
set_option maxRecDepth 100000 in
theorem c_X3_readNumber (l : Launch) (G : BGT) (q_t q_tB q_e q_d q_eN : Nat) (tN : Int32) (tB : Nat → Int32) (eF : Int32) (eK : Int32) (eS : Int32) (eE : Int32) (eU : Int32) (x1 : Int32) (x2 : Int32) (hk : k_X3_readNumber tB tN eE eU) : WR l yX3_readNumber wsX3_readNumber 3 G [oX5 q_t q_tB tN, aB G q_tB 740 tB, oX3 q_e q_t q_d q_eN eF eK eS eE eU] [oX5 q_t q_tB tN, aB G q_tB 740 tB, oX3 q_e q_t q_d q_eN ((f_X3_readNumber x1 x2 tB tN eF eE eU).2.1) ((f_X3_readNumber x1 x2 tB tN eF eE eU).2.2.1) ((f_X3_readNumber x1 x2 tB tN eF eE eU).2.2.2.1) ((f_X3_readNumber x1 x2 tB tN eF eE eU).2.2.2.2.1) ((f_X3_readNumber x1 x2 tB tN eF eE eU).2.2.2.2.2)] [.ref q_e, .int x1, .int x2] (some (.int ((f_X3_readNumber x1 x2 tB tN eF eE eU).1))) := by
  refine WR.ofW (cc := cX3_readNumber) (maxL := 3) (ret := (some .boolean)) (C := RX3) (by decide) rfl rfl (Nat.le_of_ble_eq_true rfl) ?_
  intro p e s m args below meth c Q ls A hx hb hml hts hown hP hD hS hA hB hl fi fv
  have hl : lv_has ls 3 [(0, .ref q_e), (1, .int x1), (2, .int x2)] := hl
  have t_0 := hts (.fieldLink RX3 49 "ParcelSplit$Reader" "kind" "I") (by decide +kernel)
  have t_1 := hts (.fieldLink RX3 89 "ParcelSplit$Reader" "number" "I") (by decide +kernel)
  have i_X3 : ∀ w ∈ wsX30, w ∈ wsX3_readNumber := by decide +kernel
  rw [k_X3_readNumber] at hk
  refine lv_aload_n hx hb dX3_readNumber_0 rfl (lv_at hl 0 rfl) ?_
  obtain ⟨o_1, hk⟩ := hk
  refine wr_V (ci := 3) (q0 := 2) (As := []) (rest := []) (wr := []) (wf := [oX5 q_t q_tB tN, aB G q_tB 740 tB, oX3 q_e q_t q_d q_eN eF ((f_X3_advance tB tN eE eU).1) ((f_X3_advance tB tN eE eU).2.1) ((f_X3_advance tB tN eE eU).2.2.1) ((f_X3_advance tB tN eE eU).2.2.2)]) (c_X3_advance l G q_t q_tB q_e q_d q_eN tN tB eF eK eS eE eU o_1) [0, 1, 2] [] [0, 1, 2] rfl rfl rfl (by decide) rfl rfl rfl gX3_readNumber_X3_advance ⟨_, rfl⟩ hd_X3_advance rfl dX3_readNumber_1 rfl rfl (Nat.le_of_ble_eq_true rfl) ⟨Nat.le_of_ble_eq_true rfl, Nat.le_of_ble_eq_true rfl⟩ ⟨Nat.le_refl 0, Nat.le_refl 0⟩ hx hb hml hown hts hB hD hS hA hP hl.1 (fun H locs hP hD hS => ?_)
  refine W.eq (g2 := F0 m 4 ls []) rfl ?_
  refine lv_aload_n hx hb dX3_readNumber_4 rfl (lv_at hl 0 rfl) ?_
  refine va_get (D := gD G) (ci := 3) (v := .int ((f_X3_advance tB tN eE eU).1)) (C := RX3) (T := TX3) (N := 8) hx hb hts i_X3 hown hB.1 hP 2 rfl rfl 4 (by decide) t_0 (fun _ h9 => h9) rfl dX3_readNumber_5 ?_
  refine lv_iconst (v := 3) hx hb dX3_readNumber_8 (by decide) ?_
  refine lv_icmp_eq (tgt := 18) hx hb dX3_readNumber_9 (by decide) (fun c_2 => ?_) (fun c_2 => ?_)
  · rw [if_pos c_2] at hk
    refine lv_aload_n hx hb dX3_readNumber_18 rfl (lv_at hl 0 rfl) ?_
    refine va_get (D := gD G) (ci := 3) (v := .int ((f_X3_advance tB tN eE eU).2.2.2)) (C := RX3) (T := TX3) (N := 8) hx hb hts i_X3 hown hB.1 hP 2 rfl rfl 7 (by decide) t_1 (fun _ h9 => h9) rfl dX3_readNumber_19 ?_
    refine lv_iload_n hx hb dX3_readNumber_22 rfl (lv_at hl 1 rfl) ?_
    refine lv_icmp_lt (tgt := 34) hx hb dX3_readNumber_23 (by decide) (fun c_3 => ?_) (fun c_3 => ?_)
    · refine lv_aload_n hx hb dX3_readNumber_34 rfl (lv_at hl 0 rfl) ?_
      refine lv_iconst (v := 2) hx hb dX3_readNumber_35 (by decide) ?_
      refine wr_V (ci := 3) (q0 := 2) (As := [.int 2]) (rest := []) (wr := [oX5 q_t q_tB tN, aB G q_tB 740 tB]) (wf := [oX5 q_t q_tB tN, aB G q_tB 740 tB, oX3 q_e q_t q_d q_eN ((f_X3_fails 2).2) ((f_X3_advance tB tN eE eU).1) ((f_X3_advance tB tN eE eU).2.1) ((f_X3_advance tB tN eE eU).2.2.1) ((f_X3_advance tB tN eE eU).2.2.2)]) (c_X3_fails l G q_e q_t q_d q_eN eF ((f_X3_advance tB tN eE eU).1) ((f_X3_advance tB tN eE eU).2.1) ((f_X3_advance tB tN eE eU).2.2.1) ((f_X3_advance tB tN eE eU).2.2.2) 2) [2] [0, 1] [0, 1, 2] rfl rfl rfl (by decide) rfl rfl rfl gX3_readNumber_X3_fails ⟨_, rfl⟩ hd_X3_fails rfl dX3_readNumber_36 rfl rfl (Nat.le_of_ble_eq_true rfl) ⟨Nat.le_of_ble_eq_true rfl, Nat.le_of_ble_eq_true rfl⟩ ⟨Nat.le_refl 0, Nat.le_refl 0⟩ hx hb hml hown hts hB hD hS hA hP hl.1 (fun H locs hP hD hS => ?_)
      refine W.eq (g2 := F0 m 39 ls [.int ((f_X3_fails 2).1)]) rfl ?_
      refine lv_if_eq (tgt := 46) hx hb dX3_readNumber_39 (by decide) (fun c_4 => ?_) (fun c_4 => ?_)
      · refine lv_iconst (v := 0) hx hb dX3_readNumber_46 (by decide) ?_
        have e9 : f_X3_readNumber x1 x2 tB tN eF eE eU = (0, ((f_X3_fails 2).2), ((f_X3_advance tB tN eE eU).1), ((f_X3_advance tB tN eE eU).2.1), ((f_X3_advance tB tN eE eU).2.2.1), ((f_X3_advance tB tN eE eU).2.2.2)) := by rw [f_X3_readNumber, if_pos c_2, if_pos c_3, if_pos c_4]
        exact fi 47 _ 0 .boolean _ _ rfl rfl dX3_readNumber_47 (by simp only [e9]) (by rw [e9]; exact hP) (by rw [e9]; exact hD) hS
      · refine lv_iconst (v := 1) hx hb dX3_readNumber_42 (by decide) ?_
        refine lv_goto (tgt := 47) hx hb dX3_readNumber_43 (by decide) ?_
        have e9 : f_X3_readNumber x1 x2 tB tN eF eE eU = (1, ((f_X3_fails 2).2), ((f_X3_advance tB tN eE eU).1), ((f_X3_advance tB tN eE eU).2.1), ((f_X3_advance tB tN eE eU).2.2.1), ((f_X3_advance tB tN eE eU).2.2.2)) := by rw [f_X3_readNumber, if_pos c_2, if_pos c_3, if_neg c_4]
        exact fi 47 _ 1 .boolean _ _ rfl rfl dX3_readNumber_47 (by simp only [e9]) (by rw [e9]; exact hP) (by rw [e9]; exact hD) hS
    · refine lv_aload_n hx hb dX3_readNumber_26 rfl (lv_at hl 0 rfl) ?_
      refine va_get (D := gD G) (ci := 3) (v := .int ((f_X3_advance tB tN eE eU).2.2.2)) (C := RX3) (T := TX3) (N := 8) hx hb hts i_X3 hown hB.1 hP 2 rfl rfl 7 (by decide) t_1 (fun _ h9 => h9) rfl dX3_readNumber_27 ?_
      refine lv_iload_n hx hb dX3_readNumber_30 rfl (lv_at hl 2 rfl) ?_
      refine lv_icmp_le (tgt := 42) hx hb dX3_readNumber_31 (by decide) (fun c_5 => ?_) (fun c_5 => ?_)
      · refine lv_iconst (v := 1) hx hb dX3_readNumber_42 (by decide) ?_
        refine lv_goto (tgt := 47) hx hb dX3_readNumber_43 (by decide) ?_
        have e9 : f_X3_readNumber x1 x2 tB tN eF eE eU = (1, eF, ((f_X3_advance tB tN eE eU).1), ((f_X3_advance tB tN eE eU).2.1), ((f_X3_advance tB tN eE eU).2.2.1), ((f_X3_advance tB tN eE eU).2.2.2)) := by rw [f_X3_readNumber, if_pos c_2, if_neg c_3, if_pos c_5]
        exact fi 47 _ 1 .boolean _ _ rfl rfl dX3_readNumber_47 (by simp only [e9]) (by rw [e9]; exact hP) (by rw [e9]; exact hD) hS
      · refine lv_aload_n hx hb dX3_readNumber_34 rfl (lv_at hl 0 rfl) ?_
        refine lv_iconst (v := 2) hx hb dX3_readNumber_35 (by decide) ?_
        refine wr_V (ci := 3) (q0 := 2) (As := [.int 2]) (rest := []) (wr := [oX5 q_t q_tB tN, aB G q_tB 740 tB]) (wf := [oX5 q_t q_tB tN, aB G q_tB 740 tB, oX3 q_e q_t q_d q_eN ((f_X3_fails 2).2) ((f_X3_advance tB tN eE eU).1) ((f_X3_advance tB tN eE eU).2.1) ((f_X3_advance tB tN eE eU).2.2.1) ((f_X3_advance tB tN eE eU).2.2.2)]) (c_X3_fails l G q_e q_t q_d q_eN eF ((f_X3_advance tB tN eE eU).1) ((f_X3_advance tB tN eE eU).2.1) ((f_X3_advance tB tN eE eU).2.2.1) ((f_X3_advance tB tN eE eU).2.2.2) 2) [2] [0, 1] [0, 1, 2] rfl rfl rfl (by decide) rfl rfl rfl gX3_readNumber_X3_fails ⟨_, rfl⟩ hd_X3_fails rfl dX3_readNumber_36 rfl rfl (Nat.le_of_ble_eq_true rfl) ⟨Nat.le_of_ble_eq_true rfl, Nat.le_of_ble_eq_true rfl⟩ ⟨Nat.le_refl 0, Nat.le_refl 0⟩ hx hb hml hown hts hB hD hS hA hP hl.1 (fun H locs hP hD hS => ?_)
        refine W.eq (g2 := F0 m 39 ls [.int ((f_X3_fails 2).1)]) rfl ?_
        refine lv_if_eq (tgt := 46) hx hb dX3_readNumber_39 (by decide) (fun c_6 => ?_) (fun c_6 => ?_)
        · refine lv_iconst (v := 0) hx hb dX3_readNumber_46 (by decide) ?_
          have e9 : f_X3_readNumber x1 x2 tB tN eF eE eU = (0, ((f_X3_fails 2).2), ((f_X3_advance tB tN eE eU).1), ((f_X3_advance tB tN eE eU).2.1), ((f_X3_advance tB tN eE eU).2.2.1), ((f_X3_advance tB tN eE eU).2.2.2)) := by rw [f_X3_readNumber, if_pos c_2, if_neg c_3, if_neg c_5, if_pos c_6]
          exact fi 47 _ 0 .boolean _ _ rfl rfl dX3_readNumber_47 (by simp only [e9]) (by rw [e9]; exact hP) (by rw [e9]; exact hD) hS
        · refine lv_iconst (v := 1) hx hb dX3_readNumber_42 (by decide) ?_
          refine lv_goto (tgt := 47) hx hb dX3_readNumber_43 (by decide) ?_
          have e9 : f_X3_readNumber x1 x2 tB tN eF eE eU = (1, ((f_X3_fails 2).2), ((f_X3_advance tB tN eE eU).1), ((f_X3_advance tB tN eE eU).2.1), ((f_X3_advance tB tN eE eU).2.2.1), ((f_X3_advance tB tN eE eU).2.2.2)) := by rw [f_X3_readNumber, if_pos c_2, if_neg c_3, if_neg c_5, if_neg c_6]
          exact fi 47 _ 1 .boolean _ _ rfl rfl dX3_readNumber_47 (by simp only [e9]) (by rw [e9]; exact hP) (by rw [e9]; exact hD) hS
  · rw [if_neg c_2] at hk
    refine lv_aload_n hx hb dX3_readNumber_12 rfl (lv_at hl 0 rfl) ?_
    refine lv_iconst (v := 1) hx hb dX3_readNumber_13 (by decide) ?_
    refine wr_V (ci := 3) (q0 := 2) (As := [.int 1]) (rest := []) (wr := [oX5 q_t q_tB tN, aB G q_tB 740 tB]) (wf := [oX5 q_t q_tB tN, aB G q_tB 740 tB, oX3 q_e q_t q_d q_eN ((f_X3_fails 1).2) ((f_X3_advance tB tN eE eU).1) ((f_X3_advance tB tN eE eU).2.1) ((f_X3_advance tB tN eE eU).2.2.1) ((f_X3_advance tB tN eE eU).2.2.2)]) (c_X3_fails l G q_e q_t q_d q_eN eF ((f_X3_advance tB tN eE eU).1) ((f_X3_advance tB tN eE eU).2.1) ((f_X3_advance tB tN eE eU).2.2.1) ((f_X3_advance tB tN eE eU).2.2.2) 1) [2] [0, 1] [0, 1, 2] rfl rfl rfl (by decide) rfl rfl rfl gX3_readNumber_X3_fails ⟨_, rfl⟩ hd_X3_fails rfl dX3_readNumber_14 rfl rfl (Nat.le_of_ble_eq_true rfl) ⟨Nat.le_of_ble_eq_true rfl, Nat.le_of_ble_eq_true rfl⟩ ⟨Nat.le_refl 0, Nat.le_refl 0⟩ hx hb hml hown hts hB hD hS hA hP hl.1 (fun H locs hP hD hS => ?_)
    refine W.eq (g2 := F0 m 17 ls [.int ((f_X3_fails 1).1)]) rfl ?_
    obtain ⟨o_7, hk⟩ := hk
    have e9 : f_X3_readNumber x1 x2 tB tN eF eE eU = (((f_X3_fails 1).1), ((f_X3_fails 1).2), ((f_X3_advance tB tN eE eU).1), ((f_X3_advance tB tN eE eU).2.1), ((f_X3_advance tB tN eE eU).2.2.1), ((f_X3_advance tB tN eE eU).2.2.2)) := by rw [f_X3_readNumber, if_neg c_2]
    exact fi 17 _ ((f_X3_fails 1).1) .boolean _ _ rfl (nb01 o_7) dX3_readNumber_17 (by simp only [e9]) (by rw [e9]; exact hP) (by rw [e9]; exact hD) hS

noncomputable def f_X3_readEnd (tB : Nat → Int32) (tN : Int32) (eF : Int32) (eE : Int32) (eU : Int32) : Int32 × Int32 × Int32 × Int32 × Int32 × Int32 := (if ((f_X3_advance tB tN eE eU).1) = 1 then (if (f_X5_size tN) ≤ 700 then (1, eF, ((f_X3_advance tB tN eE eU).1), ((f_X3_advance tB tN eE eU).2.1), ((f_X3_advance tB tN eE eU).2.2.1), ((f_X3_advance tB tN eE eU).2.2.2)) else (if ((f_X3_fails 1).1) = 0 then (0, ((f_X3_fails 1).2), ((f_X3_advance tB tN eE eU).1), ((f_X3_advance tB tN eE eU).2.1), ((f_X3_advance tB tN eE eU).2.2.1), ((f_X3_advance tB tN eE eU).2.2.2)) else (1, ((f_X3_fails 1).2), ((f_X3_advance tB tN eE eU).1), ((f_X3_advance tB tN eE eU).2.1), ((f_X3_advance tB tN eE eU).2.2.1), ((f_X3_advance tB tN eE eU).2.2.2)))) else (if ((f_X3_fails 1).1) = 0 then (0, ((f_X3_fails 1).2), ((f_X3_advance tB tN eE eU).1), ((f_X3_advance tB tN eE eU).2.1), ((f_X3_advance tB tN eE eU).2.2.1), ((f_X3_advance tB tN eE eU).2.2.2)) else (1, ((f_X3_fails 1).2), ((f_X3_advance tB tN eE eU).1), ((f_X3_advance tB tN eE eU).2.1), ((f_X3_advance tB tN eE eU).2.2.1), ((f_X3_advance tB tN eE eU).2.2.2))))
noncomputable def k_X3_readEnd (tB : Nat → Int32) (tN : Int32) (eE : Int32) : Prop := (k_X3_advance tB tN eE ∧ True)
theorem hd_X3_readEnd : yX3_readEnd.cls ≠ "java/lang/invoke/MethodHandle" ∧ yX3_readEnd.cls ≠ "java/lang/invoke/VarHandle" ∧ (parseMethodDescriptor yX3_readEnd.desc).map (fun d => d.parameters.length) = some 0 := by decide +kernel
set_option maxHeartbeats 4000000 in
set_option maxRecDepth 100000 in
theorem c_X3_readEnd (l : Launch) (G : BGT) (q_t q_tB q_e q_d q_eN : Nat) (tN : Int32) (tB : Nat → Int32) (eF : Int32) (eK : Int32) (eS : Int32) (eE : Int32) (eU : Int32) (hk : k_X3_readEnd tB tN eE) : WR l yX3_readEnd wsX3_readEnd 3 G [oX5 q_t q_tB tN, aB G q_tB 740 tB, oX3 q_e q_t q_d q_eN eF eK eS eE eU] [oX5 q_t q_tB tN, aB G q_tB 740 tB, oX3 q_e q_t q_d q_eN ((f_X3_readEnd tB tN eF eE eU).2.1) ((f_X3_readEnd tB tN eF eE eU).2.2.1) ((f_X3_readEnd tB tN eF eE eU).2.2.2.1) ((f_X3_readEnd tB tN eF eE eU).2.2.2.2.1) ((f_X3_readEnd tB tN eF eE eU).2.2.2.2.2)] [.ref q_e] (some (.int ((f_X3_readEnd tB tN eF eE eU).1))) := by
  refine WR.ofW (cc := cX3_readEnd) (maxL := 1) (ret := (some .boolean)) (C := RX3) (by decide) rfl rfl (Nat.le_of_ble_eq_true rfl) ?_
  intro p e s m args below meth c Q ls A hx hb hml hts hown hP hD hS hA hB hl fi fv
  have hl : lv_has ls 1 [(0, .ref q_e)] := hl
  have t_0 := hts (.fieldLink RX3 49 "ParcelSplit$Reader" "kind" "I") (by decide +kernel)
  have t_1 := hts (.fieldLink RX3 15 "ParcelSplit$Reader" "tape" "LParcelSplit$Tape;") (by decide +kernel)
  have i_X3 : ∀ w ∈ wsX30, w ∈ wsX3_readEnd := by decide +kernel
  rw [k_X3_readEnd] at hk
  refine lv_aload_n hx hb dX3_readEnd_0 rfl (lv_at hl 0 rfl) ?_
  obtain ⟨o_1, hk⟩ := hk
  refine wr_V (ci := 3) (q0 := 2) (As := []) (rest := []) (wr := []) (wf := [oX5 q_t q_tB tN, aB G q_tB 740 tB, oX3 q_e q_t q_d q_eN eF ((f_X3_advance tB tN eE eU).1) ((f_X3_advance tB tN eE eU).2.1) ((f_X3_advance tB tN eE eU).2.2.1) ((f_X3_advance tB tN eE eU).2.2.2)]) (c_X3_advance l G q_t q_tB q_e q_d q_eN tN tB eF eK eS eE eU o_1) [0, 1, 2] [] [0, 1, 2] rfl rfl rfl (by decide) rfl rfl rfl gX3_readEnd_X3_advance ⟨_, rfl⟩ hd_X3_advance rfl dX3_readEnd_1 rfl rfl (Nat.le_of_ble_eq_true rfl) ⟨Nat.le_of_ble_eq_true rfl, Nat.le_of_ble_eq_true rfl⟩ ⟨Nat.le_refl 0, Nat.le_refl 0⟩ hx hb hml hown hts hB hD hS hA hP hl.1 (fun H locs hP hD hS => ?_)
  refine W.eq (g2 := F0 m 4 ls []) rfl ?_
  refine lv_aload_n hx hb dX3_readEnd_4 rfl (lv_at hl 0 rfl) ?_
  refine va_get (D := gD G) (ci := 3) (v := .int ((f_X3_advance tB tN eE eU).1)) (C := RX3) (T := TX3) (N := 8) hx hb hts i_X3 hown hB.1 hP 2 rfl rfl 4 (by decide) t_0 (fun _ h9 => h9) rfl dX3_readEnd_5 ?_
  refine lv_iconst (v := 1) hx hb dX3_readEnd_8 (by decide) ?_
  refine lv_icmp_ne (tgt := 25) hx hb dX3_readEnd_9 (by decide) (fun c_2 => ?_) (fun c_2 => ?_)
  · refine lv_aload_n hx hb dX3_readEnd_25 rfl (lv_at hl 0 rfl) ?_
    refine lv_iconst (v := 1) hx hb dX3_readEnd_26 (by decide) ?_
    refine wr_V (ci := 3) (q0 := 2) (As := [.int 1]) (rest := []) (wr := [oX5 q_t q_tB tN, aB G q_tB 740 tB]) (wf := [oX5 q_t q_tB tN, aB G q_tB 740 tB, oX3 q_e q_t q_d q_eN ((f_X3_fails 1).2) ((f_X3_advance tB tN eE eU).1) ((f_X3_advance tB tN eE eU).2.1) ((f_X3_advance tB tN eE eU).2.2.1) ((f_X3_advance tB tN eE eU).2.2.2)]) (c_X3_fails l G q_e q_t q_d q_eN eF ((f_X3_advance tB tN eE eU).1) ((f_X3_advance tB tN eE eU).2.1) ((f_X3_advance tB tN eE eU).2.2.1) ((f_X3_advance tB tN eE eU).2.2.2) 1) [2] [0, 1] [0, 1, 2] rfl rfl rfl (by decide) rfl rfl rfl gX3_readEnd_X3_fails ⟨_, rfl⟩ hd_X3_fails rfl dX3_readEnd_27 rfl rfl (Nat.le_of_ble_eq_true rfl) ⟨Nat.le_of_ble_eq_true rfl, Nat.le_of_ble_eq_true rfl⟩ ⟨Nat.le_refl 0, Nat.le_refl 0⟩ hx hb hml hown hts hB hD hS hA hP hl.1 (fun H locs hP hD hS => ?_)
    refine W.eq (g2 := F0 m 30 ls [.int ((f_X3_fails 1).1)]) rfl ?_
    refine lv_if_eq (tgt := 37) hx hb dX3_readEnd_30 (by decide) (fun c_3 => ?_) (fun c_3 => ?_)
    · refine lv_iconst (v := 0) hx hb dX3_readEnd_37 (by decide) ?_
      have e9 : f_X3_readEnd tB tN eF eE eU = (0, ((f_X3_fails 1).2), ((f_X3_advance tB tN eE eU).1), ((f_X3_advance tB tN eE eU).2.1), ((f_X3_advance tB tN eE eU).2.2.1), ((f_X3_advance tB tN eE eU).2.2.2)) := by rw [f_X3_readEnd, if_neg c_2, if_pos c_3]
      exact fi 38 _ 0 .boolean _ _ rfl rfl dX3_readEnd_38 (by simp only [e9]) (by rw [e9]; exact hP) (by rw [e9]; exact hD) hS
    · refine lv_iconst (v := 1) hx hb dX3_readEnd_33 (by decide) ?_
      refine lv_goto (tgt := 38) hx hb dX3_readEnd_34 (by decide) ?_
      have e9 : f_X3_readEnd tB tN eF eE eU = (1, ((f_X3_fails 1).2), ((f_X3_advance tB tN eE eU).1), ((f_X3_advance tB tN eE eU).2.1), ((f_X3_advance tB tN eE eU).2.2.1), ((f_X3_advance tB tN eE eU).2.2.2)) := by rw [f_X3_readEnd, if_neg c_2, if_neg c_3]
      exact fi 38 _ 1 .boolean _ _ rfl rfl dX3_readEnd_38 (by simp only [e9]) (by rw [e9]; exact hP) (by rw [e9]; exact hD) hS
  · refine lv_aload_n hx hb dX3_readEnd_12 rfl (lv_at hl 0 rfl) ?_
    refine va_get (D := gD G) (ci := 3) (v := .ref q_t) (C := RX3) (T := TX3) (N := 8) hx hb hts i_X3 hown hB.1 hP 2 rfl rfl 0 (by decide) t_1 (fun _ h9 => h9) rfl dX3_readEnd_13 ?_
    refine ro_V (ci := 5) (q0 := 0) (As := []) (rest := []) (c_X5_size l G q_t q_tB tN) [0] rfl rfl rfl rfl gX3_readEnd_X5_size ⟨_, rfl⟩ hd_X5_size rfl dX3_readEnd_16 rfl rfl (Nat.le_of_ble_eq_true rfl) ⟨Nat.le_of_ble_eq_true rfl, Nat.le_of_ble_eq_true rfl⟩ ⟨Nat.le_refl 0, Nat.le_refl 0⟩ hx hb hml hown hts hB hS hP hl.1 ?_
    refine W.eq (g2 := F0 m 19 ls [.int (f_X5_size tN)]) rfl ?_
    refine lv_sipush (v := 700) hx hb dX3_readEnd_19 (by decide) ?_
    refine lv_icmp_le (tgt := 33) hx hb dX3_readEnd_22 (by decide) (fun c_4 => ?_) (fun c_4 => ?_)
    · refine lv_iconst (v := 1) hx hb dX3_readEnd_33 (by decide) ?_
      refine lv_goto (tgt := 38) hx hb dX3_readEnd_34 (by decide) ?_
      have e9 : f_X3_readEnd tB tN eF eE eU = (1, eF, ((f_X3_advance tB tN eE eU).1), ((f_X3_advance tB tN eE eU).2.1), ((f_X3_advance tB tN eE eU).2.2.1), ((f_X3_advance tB tN eE eU).2.2.2)) := by rw [f_X3_readEnd, if_pos c_2, if_pos c_4]
      exact fi 38 _ 1 .boolean _ _ rfl rfl dX3_readEnd_38 (by simp only [e9]) (by rw [e9]; exact hP) (by rw [e9]; exact hD) hS
    · refine lv_aload_n hx hb dX3_readEnd_25 rfl (lv_at hl 0 rfl) ?_
      refine lv_iconst (v := 1) hx hb dX3_readEnd_26 (by decide) ?_
      refine wr_V (ci := 3) (q0 := 2) (As := [.int 1]) (rest := []) (wr := [oX5 q_t q_tB tN, aB G q_tB 740 tB]) (wf := [oX5 q_t q_tB tN, aB G q_tB 740 tB, oX3 q_e q_t q_d q_eN ((f_X3_fails 1).2) ((f_X3_advance tB tN eE eU).1) ((f_X3_advance tB tN eE eU).2.1) ((f_X3_advance tB tN eE eU).2.2.1) ((f_X3_advance tB tN eE eU).2.2.2)]) (c_X3_fails l G q_e q_t q_d q_eN eF ((f_X3_advance tB tN eE eU).1) ((f_X3_advance tB tN eE eU).2.1) ((f_X3_advance tB tN eE eU).2.2.1) ((f_X3_advance tB tN eE eU).2.2.2) 1) [2] [0, 1] [0, 1, 2] rfl rfl rfl (by decide) rfl rfl rfl gX3_readEnd_X3_fails ⟨_, rfl⟩ hd_X3_fails rfl dX3_readEnd_27 rfl rfl (Nat.le_of_ble_eq_true rfl) ⟨Nat.le_of_ble_eq_true rfl, Nat.le_of_ble_eq_true rfl⟩ ⟨Nat.le_refl 0, Nat.le_refl 0⟩ hx hb hml hown hts hB hD hS hA hP hl.1 (fun H locs hP hD hS => ?_)
      refine W.eq (g2 := F0 m 30 ls [.int ((f_X3_fails 1).1)]) rfl ?_
      refine lv_if_eq (tgt := 37) hx hb dX3_readEnd_30 (by decide) (fun c_5 => ?_) (fun c_5 => ?_)
      · refine lv_iconst (v := 0) hx hb dX3_readEnd_37 (by decide) ?_
        have e9 : f_X3_readEnd tB tN eF eE eU = (0, ((f_X3_fails 1).2), ((f_X3_advance tB tN eE eU).1), ((f_X3_advance tB tN eE eU).2.1), ((f_X3_advance tB tN eE eU).2.2.1), ((f_X3_advance tB tN eE eU).2.2.2)) := by rw [f_X3_readEnd, if_pos c_2, if_neg c_4, if_pos c_5]
        exact fi 38 _ 0 .boolean _ _ rfl rfl dX3_readEnd_38 (by simp only [e9]) (by rw [e9]; exact hP) (by rw [e9]; exact hD) hS
      · refine lv_iconst (v := 1) hx hb dX3_readEnd_33 (by decide) ?_
        refine lv_goto (tgt := 38) hx hb dX3_readEnd_34 (by decide) ?_
        have e9 : f_X3_readEnd tB tN eF eE eU = (1, ((f_X3_fails 1).2), ((f_X3_advance tB tN eE eU).1), ((f_X3_advance tB tN eE eU).2.1), ((f_X3_advance tB tN eE eU).2.2.1), ((f_X3_advance tB tN eE eU).2.2.2)) := by rw [f_X3_readEnd, if_pos c_2, if_neg c_4, if_neg c_5]
        exact fi 38 _ 1 .boolean _ _ rfl rfl dX3_readEnd_38 (by simp only [e9]) (by rw [e9]; exact hP) (by rw [e9]; exact hD) hS
