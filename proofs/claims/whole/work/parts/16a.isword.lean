noncomputable def f_X3_isWord_L20 (tB : Nat → Int32) (tN : Int32) (eS : Int32) (k_ : Nat) : Nat → Int32 → Int32
  | 0, v2 => 0
  | n + 1, v2 => (if (f_len k_) ≤ v2 then 1 else (if (f_X5_byteAt (eS + v2) tB tN) = (f_chr k_ v2) then f_X3_isWord_L20 tB tN eS k_ n (v2 + 1) else 0))
noncomputable def k_X3_isWord_L20 (tB : Nat → Int32) (tN : Int32) (eS : Int32) (k_ : Nat) : Nat → Int32 → Prop
  | 0, _ => False
  | n + 1, v2 => (if (f_len k_) ≤ v2 then True else (¬ v2 < 0 ∧ (v2 < nI (bgL.getD k_ 0) ∧ (if (f_X5_byteAt (eS + v2) tB tN) = (f_chr k_ v2) then k_X3_isWord_L20 tB tN eS k_ n (v2 + 1) else True))))
noncomputable def f_X3_isWord (tB : Nat → Int32) (tN : Int32) (eS : Int32) (eE : Int32) (k_ : Nat) : Int32 := (if (eE - eS) = (f_len k_) then f_X3_isWord_L20 tB tN eS k_ FU 0 else 0)
noncomputable def k_X3_isWord (tB : Nat → Int32) (tN : Int32) (eS : Int32) (eE : Int32) (k_ : Nat) : Prop := (if (eE - eS) = (f_len k_) then k_X3_isWord_L20 tB tN eS k_ FU 0 else True)
theorem hd_X3_isWord : yX3_isWord.cls ≠ "java/lang/invoke/MethodHandle" ∧ yX3_isWord.cls ≠ "java/lang/invoke/VarHandle" ∧ (parseMethodDescriptor yX3_isWord.desc).map (fun d => d.parameters.length) = some 1 := by decide +kernel
set_option maxHeartbeats 4000000 in
set_option maxRecDepth 100000 in
theorem c_X3_isWord (l : Launch) (G : BGT) (k_ : Nat) (hk_ : k_ < 7) (q_t q_tB q_e q_d q_eN : Nat) (tN : Int32) (tB : Nat → Int32) (eF : Int32) (eK : Int32) (eS : Int32) (eE : Int32) (eU : Int32) (hk : k_X3_isWord tB tN eS eE k_) : RO l yX3_isWord wsX3_isWord 4 G [oX5 q_t q_tB tN, aB G q_tB 740 tB, oX3 q_e q_t q_d q_eN eF eK eS eE eU] [.ref q_e, .ref (gK G k_)] (some (.int (f_X3_isWord tB tN eS eE k_))) := by
  refine RO.ofW (cc := cX3_isWord) (maxL := 3) (ret := (some .boolean)) (C := RX3) (by decide) rfl rfl (Nat.le_of_ble_eq_true rfl) ?_
  intro p e s m args below meth c Q ls hx hb hml hts hown hP hB hl fi fl fv
  have hS : va_S (fun _ => False) s.heap s.heap [] := va_S.rf
  have hl : lv_has ls 3 [(0, .ref q_e), (1, .ref (gK G k_))] := hl
  have t_0 := hts (.fieldLink RX3 32 "ParcelSplit$Reader" "end" "I") (by decide +kernel)
  have t_1 := hts (.fieldLink RX3 39 "ParcelSplit$Reader" "start" "I") (by decide +kernel)
  have t_2 := hts (.fieldLink RX3 15 "ParcelSplit$Reader" "tape" "LParcelSplit$Tape;") (by decide +kernel)
  have i_X3 : ∀ w ∈ wsX30, w ∈ wsX3_isWord := by decide +kernel
  have T20 : ∀ (n : Nat) (v2 : Int32), k_X3_isWord_L20 tB tN eS k_ n v2 → f_X3_isWord tB tN eS eE k_ = f_X3_isWord_L20 tB tN eS k_ n v2 → ∀ (ls : Array Slot), lv_has ls 3 [(0, .ref q_e), (1, .ref (gK G k_)), (2, .int v2)] → W p l e (rm 4) s m args below meth c s.heap [] 0 0 Q (F0 m 20 ls []) := by
    intro n
    induction n with
    | zero => intro v2 hk; exact (hk : False).elim
    | succ n ih =>
      intro v2 hk hv ls hl
      rw [k_X3_isWord_L20] at hk
      refine lv_iload_n hx hb dX3_isWord_20 rfl (lv_at hl 2 rfl) ?_
      refine lv_aload_n hx hb dX3_isWord_21 rfl (lv_at hl 1 rfl) ?_
      refine ro_VT (As := []) (rest := [.int v2]) k_ hk_ (c_J0_length_8abf5 l G k_ hk_) [] rfl gX3_isWord_J0_length_8abf5 ⟨_, rfl⟩ hd_J0_length_8abf5 rfl dX3_isWord_22 rfl rfl (Nat.le_of_ble_eq_true rfl) ⟨Nat.le_of_ble_eq_true rfl, Nat.le_of_ble_eq_true rfl⟩ ⟨Nat.le_refl 0, Nat.le_refl 0⟩ hx hb hml hown hts hB hS hP hl.1 ?_
      refine W.eq (g2 := F0 m 25 ls [.int (f_len k_), .int v2]) rfl ?_
      refine lv_icmp_ge (tgt := 57) hx hb dX3_isWord_25 (by decide) (fun c_2 => ?_) (fun c_2 => ?_)
      · rw [if_pos c_2] at hk
        refine lv_iconst (v := 1) hx hb dX3_isWord_57 (by decide) ?_
        exact fi 58 _ 1 .boolean rfl rfl dX3_isWord_58 (by rw [hv, f_X3_isWord_L20, if_pos c_2])
      · rw [if_neg c_2] at hk
        refine lv_aload_n hx hb dX3_isWord_28 rfl (lv_at hl 0 rfl) ?_
        refine va_get (D := gD G) (ci := 3) (v := .ref q_t) (C := RX3) (T := TX3) (N := 8) hx hb hts i_X3 hown hB.1 hP 2 rfl rfl 0 (by decide) t_2 (fun _ h9 => h9) rfl dX3_isWord_29 ?_
        refine lv_aload_n hx hb dX3_isWord_32 rfl (lv_at hl 0 rfl) ?_
        refine va_get (D := gD G) (ci := 3) (v := .int eS) (C := RX3) (T := TX3) (N := 8) hx hb hts i_X3 hown hB.1 hP 2 rfl rfl 5 (by decide) t_1 (fun _ h9 => h9) rfl dX3_isWord_33 ?_
        refine lv_iload_n hx hb dX3_isWord_36 rfl (lv_at hl 2 rfl) ?_
        refine lv_iadd hx hb dX3_isWord_37 ?_
        refine ro_V (ci := 5) (q0 := 0) (As := [.int (eS + v2)]) (rest := []) (c_X5_byteAt l G q_t q_tB tN tB (eS + v2)) [0, 1] rfl rfl rfl rfl gX3_isWord_X5_byteAt ⟨_, rfl⟩ hd_X5_byteAt rfl dX3_isWord_38 rfl rfl (Nat.le_of_ble_eq_true rfl) ⟨Nat.le_of_ble_eq_true rfl, Nat.le_of_ble_eq_true rfl⟩ ⟨Nat.le_refl 0, Nat.le_refl 0⟩ hx hb hml hown hts hB hS hP hl.1 ?_
        refine W.eq (g2 := F0 m 41 ls [.int (f_X5_byteAt (eS + v2) tB tN)]) rfl ?_
        refine lv_aload_n hx hb dX3_isWord_41 rfl (lv_at hl 1 rfl) ?_
        refine lv_iload_n hx hb dX3_isWord_42 rfl (lv_at hl 2 rfl) ?_
        obtain ⟨o_3, hk⟩ := hk
        obtain ⟨o_4, hk⟩ := hk
        refine ro_VT (As := [.int v2]) (rest := [.int (f_X5_byteAt (eS + v2) tB tN)]) k_ hk_ (c_J0_charAt_5068e l G k_ hk_ v2 o_3 o_4) [] rfl gX3_isWord_J0_charAt_5068e ⟨_, rfl⟩ hd_J0_charAt_5068e rfl dX3_isWord_43 rfl rfl (Nat.le_of_ble_eq_true rfl) ⟨Nat.le_of_ble_eq_true rfl, Nat.le_of_ble_eq_true rfl⟩ ⟨Nat.le_refl 0, Nat.le_refl 0⟩ hx hb hml hown hts hB hS hP hl.1 ?_
        refine W.eq (g2 := F0 m 46 ls [.int (f_chr k_ v2), .int (f_X5_byteAt (eS + v2) tB tN)]) rfl ?_
        refine lv_icmp_eq (tgt := 51) hx hb dX3_isWord_46 (by decide) (fun c_5 => ?_) (fun c_5 => ?_)
        · rw [if_pos c_5] at hk
          refine lv_iinc (v := (v2 + 1)) (lv' := [(2, .int (v2 + 1)), (0, .ref q_e), (1, .ref (gK G k_))]) hx hb dX3_isWord_51 hl (k := 2) rfl (by rfl) (by decide) rfl (fun ls hl => ?_)
          refine lv_goto (tgt := 20) hx hb dX3_isWord_54 (by decide) ?_
          exact ih (v2 + 1) hk (hv.trans (by rw [f_X3_isWord_L20, if_neg c_2, if_pos c_5])) ls (lv_sub hl [1, 2, 0] rfl)
        · rw [if_neg c_5] at hk
          refine lv_iconst (v := 0) hx hb dX3_isWord_49 (by decide) ?_
          exact fi 50 _ 0 .boolean rfl rfl dX3_isWord_50 (by rw [hv, f_X3_isWord_L20, if_neg c_2, if_neg c_5])
  rw [k_X3_isWord] at hk
  refine lv_aload_n hx hb dX3_isWord_0 rfl (lv_at hl 0 rfl) ?_
  refine va_get (D := gD G) (ci := 3) (v := .int eE) (C := RX3) (T := TX3) (N := 8) hx hb hts i_X3 hown hB.1 hP 2 rfl rfl 6 (by decide) t_0 (fun _ h9 => h9) rfl dX3_isWord_1 ?_
  refine lv_aload_n hx hb dX3_isWord_4 rfl (lv_at hl 0 rfl) ?_
  refine va_get (D := gD G) (ci := 3) (v := .int eS) (C := RX3) (T := TX3) (N := 8) hx hb hts i_X3 hown hB.1 hP 2 rfl rfl 5 (by decide) t_1 (fun _ h9 => h9) rfl dX3_isWord_5 ?_
  refine lv_isub hx hb dX3_isWord_8 ?_
  refine lv_aload_n hx hb dX3_isWord_9 rfl (lv_at hl 1 rfl) ?_
  refine ro_VT (As := []) (rest := [.int (eE - eS)]) k_ hk_ (c_J0_length_8abf5 l G k_ hk_) [] rfl gX3_isWord_J0_length_8abf5 ⟨_, rfl⟩ hd_J0_length_8abf5 rfl dX3_isWord_10 rfl rfl (Nat.le_of_ble_eq_true rfl) ⟨Nat.le_of_ble_eq_true rfl, Nat.le_of_ble_eq_true rfl⟩ ⟨Nat.le_refl 0, Nat.le_refl 0⟩ hx hb hml hown hts hB hS hP hl.1 ?_
  refine W.eq (g2 := F0 m 13 ls [.int (f_len k_), .int (eE - eS)]) rfl ?_
  refine lv_icmp_eq (tgt := 18) hx hb dX3_isWord_13 (by decide) (fun c_1 => ?_) (fun c_1 => ?_)
  · rw [if_pos c_1] at hk
    refine lv_iconst (v := 0) hx hb dX3_isWord_18 (by decide) ?_
    refine lv_istore_n (lv' := [(2, .int 0), (0, .ref q_e), (1, .ref (gK G k_))]) hx hb dX3_isWord_19 rfl hl (by decide) rfl (fun ls hl => ?_)
    exact T20 FU 0 hk (by rw [f_X3_isWord, if_pos c_1]) ls (lv_sub hl [1, 2, 0] rfl)
  · rw [if_neg c_1] at hk
    refine lv_iconst (v := 0) hx hb dX3_isWord_16 (by decide) ?_
    exact fi 17 _ 0 .boolean rfl rfl dX3_isWord_17 (by rw [f_X3_isWord, if_neg c_1])
