noncomputable def f_X5_size (tN : Int32) : Int32 := tN
theorem hd_X5_size : yX5_size.cls ≠ "java/lang/invoke/MethodHandle" ∧ yX5_size.cls ≠ "java/lang/invoke/VarHandle" ∧ (parseMethodDescriptor yX5_size.desc).map (fun d => d.parameters.length) = some 0 := by decide +kernel
set_option maxHeartbeats 4000000 in
set_option maxRecDepth 100000 in
theorem c_X5_size (l : Launch) (G : BGT) (q_t q_tB : Nat) (tN : Int32) : RO l yX5_size wsX5_size 0 G [oX5 q_t q_tB tN] [.ref q_t] (some (.int (f_X5_size tN))) := by
  refine RO.ofW (cc := cX5_size) (maxL := 1) (ret := (some .int)) (C := RX5) (by decide) rfl rfl (Nat.le_of_ble_eq_true rfl) ?_
  intro p e s m args below meth c Q ls hx hb hml hts hown hP hB hl fi fl fv
  have hS : va_S (fun _ => False) s.heap s.heap [] := va_S.rf
  have hl : lv_has ls 1 [(0, .ref q_t)] := hl
  have t_0 := hts (.fieldLink RX5 13 "ParcelSplit$Tape" "size" "I") (by decide +kernel)
  have i_X5 : ∀ w ∈ wsX50, w ∈ wsX5_size := by decide +kernel
  refine lv_aload_n hx hb dX5_size_0 rfl (lv_at hl 0 rfl) ?_
  refine va_get (D := gD G) (ci := 5) (v := .int tN) (C := RX5) (T := TX5) (N := 2) hx hb hts i_X5 hown hB.1 hP 0 rfl rfl 1 (by decide) t_0 (fun _ h9 => h9) rfl dX5_size_1 ?_
  exact fi 4 _ tN .int rfl rfl dX5_size_4 (by rw [f_X5_size])

noncomputable def f_X5_hasRoomForFive (tN : Int32) : Int32 := (if 740 < (tN + 20) then 0 else 1)
theorem hd_X5_hasRoomForFive : yX5_hasRoomForFive.cls ≠ "java/lang/invoke/MethodHandle" ∧ yX5_hasRoomForFive.cls ≠ "java/lang/invoke/VarHandle" ∧ (parseMethodDescriptor yX5_hasRoomForFive.desc).map (fun d => d.parameters.length) = some 0 := by decide +kernel
set_option maxHeartbeats 4000000 in
set_option maxRecDepth 100000 in
theorem c_X5_hasRoomForFive (l : Launch) (G : BGT) (q_t q_tB : Nat) (tN : Int32) : RO l yX5_hasRoomForFive wsX5_hasRoomForFive 0 G [oX5 q_t q_tB tN] [.ref q_t] (some (.int (f_X5_hasRoomForFive tN))) := by
  refine RO.ofW (cc := cX5_hasRoomForFive) (maxL := 1) (ret := (some .boolean)) (C := RX5) (by decide) rfl rfl (Nat.le_of_ble_eq_true rfl) ?_
  intro p e s m args below meth c Q ls hx hb hml hts hown hP hB hl fi fl fv
  have hS : va_S (fun _ => False) s.heap s.heap [] := va_S.rf
  have hl : lv_has ls 1 [(0, .ref q_t)] := hl
  have t_0 := hts (.fieldLink RX5 13 "ParcelSplit$Tape" "size" "I") (by decide +kernel)
  have i_X5 : ∀ w ∈ wsX50, w ∈ wsX5_hasRoomForFive := by decide +kernel
  refine lv_aload_n hx hb dX5_hasRoomForFive_0 rfl (lv_at hl 0 rfl) ?_
  refine va_get (D := gD G) (ci := 5) (v := .int tN) (C := RX5) (T := TX5) (N := 2) hx hb hts i_X5 hown hB.1 hP 0 rfl rfl 1 (by decide) t_0 (fun _ h9 => h9) rfl dX5_hasRoomForFive_1 ?_
  refine lv_bipush (v := 20) hx hb dX5_hasRoomForFive_4 (by decide) ?_
  refine lv_iadd hx hb dX5_hasRoomForFive_6 ?_
  refine lv_sipush (v := 740) hx hb dX5_hasRoomForFive_7 (by decide) ?_
  refine lv_icmp_gt (tgt := 17) hx hb dX5_hasRoomForFive_10 (by decide) (fun c_1 => ?_) (fun c_1 => ?_)
  · refine lv_iconst (v := 0) hx hb dX5_hasRoomForFive_17 (by decide) ?_
    exact fi 18 _ 0 .boolean rfl rfl dX5_hasRoomForFive_18 (by rw [f_X5_hasRoomForFive, if_pos c_1])
  · refine lv_iconst (v := 1) hx hb dX5_hasRoomForFive_13 (by decide) ?_
    refine lv_goto (tgt := 18) hx hb dX5_hasRoomForFive_14 (by decide) ?_
    exact fi 18 _ 1 .boolean rfl rfl dX5_hasRoomForFive_18 (by rw [f_X5_hasRoomForFive, if_neg c_1])

noncomputable def f_X5_append_L3 (x1 : Int32) : Nat → Int32 → (Nat → Int32) → Int32 → Int32 × (Nat → Int32) × Int32
  | 0, v2, w_tB, w_tN => (v2, w_tB, w_tN)
  | n + 1, v2, w_tB, w_tN => (if v2 < 0 then (v2, w_tB, w_tN) else (if w_tN < 0 then f_X5_append_L3 x1 n (v2 + (-8)) w_tB w_tN else (if 740 ≤ w_tN then f_X5_append_L3 x1 n (v2 + (-8)) w_tB w_tN else f_X5_append_L3 x1 n (v2 + (-8)) (upd w_tB (Int32.toNatClampNeg w_tN) (vp_nar .byte (jbyte (x1 >>> (v2 &&& 31))))) (w_tN + 1))))
noncomputable def k_X5_append_L3 (x1 : Int32) : Nat → Int32 → (Nat → Int32) → Int32 → Prop
  | 0, _, _, _ => False
  | n + 1, v2, w_tB, w_tN => (if v2 < 0 then True else (if w_tN < 0 then k_X5_append_L3 x1 n (v2 + (-8)) w_tB w_tN else (if 740 ≤ w_tN then k_X5_append_L3 x1 n (v2 + (-8)) w_tB w_tN else k_X5_append_L3 x1 n (v2 + (-8)) (upd w_tB (Int32.toNatClampNeg w_tN) (vp_nar .byte (jbyte (x1 >>> (v2 &&& 31))))) (w_tN + 1))))
noncomputable def f_X5_append (x1 : Int32) (tB : Nat → Int32) (tN : Int32) : (Nat → Int32) × Int32 := (((f_X5_append_L3 x1 FU 24 tB tN).2.1), ((f_X5_append_L3 x1 FU 24 tB tN).2.2))
noncomputable def k_X5_append (x1 : Int32) (tB : Nat → Int32) (tN : Int32) : Prop := (k_X5_append_L3 x1 FU 24 tB tN ∧ True)
theorem hd_X5_append : yX5_append.cls ≠ "java/lang/invoke/MethodHandle" ∧ yX5_append.cls ≠ "java/lang/invoke/VarHandle" ∧ (parseMethodDescriptor yX5_append.desc).map (fun d => d.parameters.length) = some 1 := by decide +kernel
set_option maxHeartbeats 4000000 in
set_option maxRecDepth 100000 in
theorem c_X5_append (l : Launch) (G : BGT) (q_t q_tB : Nat) (tN : Int32) (tB : Nat → Int32) (x1 : Int32) (hk : k_X5_append x1 tB tN) : WR l yX5_append wsX5_append 0 G [oX5 q_t q_tB tN, aB G q_tB 740 tB] [oX5 q_t q_tB ((f_X5_append x1 tB tN).2), aB G q_tB 740 ((f_X5_append x1 tB tN).1)] [.ref q_t, .int x1] none := by
  refine WR.ofW (cc := cX5_append) (maxL := 3) (ret := none) (C := RX5) (by decide) rfl rfl (Nat.le_of_ble_eq_true rfl) ?_
  intro p e s m args below meth c Q ls A hx hb hml hts hown hP hD hS hA hB hl fi fv
  have hl : lv_has ls 3 [(0, .ref q_t), (1, .int x1)] := hl
  have t_0 := hts (.fieldLink RX5 13 "ParcelSplit$Tape" "size" "I") (by decide +kernel)
  have t_1 := hts (.fieldLink RX5 9 "ParcelSplit$Tape" "bytes" "[B") (by decide +kernel)
  have i_X5 : ∀ w ∈ wsX50, w ∈ wsX5_append := by decide +kernel
  rw [k_X5_append] at hk
  refine lv_bipush (v := 24) hx hb dX5_append_0 (by decide) ?_
  refine lv_istore_n (lv' := [(2, .int 24), (0, .ref q_t), (1, .int x1)]) hx hb dX5_append_2 rfl hl (by decide) rfl (fun ls hl => ?_)
  have L3 : ∀ (n : Nat) (v2 : Int32) (w_tB : Nat → Int32) (w_tN : Int32), k_X5_append_L3 x1 n v2 w_tB w_tN → ∀ (H : Heap) (locs : List Loc), va_P (gD G) vwCl [oX5 q_t q_tB w_tN, aB G q_tB 740 w_tB] H → va_D A [oX5 q_t q_tB w_tN, aB G q_tB 740 w_tB] → va_S A s.heap H locs → ∀ (ls : Array Slot), lv_has ls 3 [(0, .ref q_t), (1, .int x1), (2, .int v2)] → (∀ (H : Heap) (locs : List Loc), va_P (gD G) vwCl [oX5 q_t q_tB ((f_X5_append_L3 x1 n v2 w_tB w_tN).2.2), aB G q_tB 740 ((f_X5_append_L3 x1 n v2 w_tB w_tN).2.1)] H → va_D A [oX5 q_t q_tB ((f_X5_append_L3 x1 n v2 w_tB w_tN).2.2), aB G q_tB 740 ((f_X5_append_L3 x1 n v2 w_tB w_tN).2.1)] → va_S A s.heap H locs → ∀ (ls : Array Slot), lv_has ls 3 [(0, .ref q_t), (1, .int x1), (2, .int ((f_X5_append_L3 x1 n v2 w_tB w_tN).1))] → W p l e (rm 0) s m args below meth c H locs 0 0 Q (F0 m 55 ls [])) → W p l e (rm 0) s m args below meth c H locs 0 0 Q (F0 m 3 ls []) := by
    intro n
    induction n with
    | zero => intro v2 w_tB w_tN hk; exact (hk : False).elim
    | succ n ih =>
      intro v2 w_tB w_tN hk H locs hP hD hS ls hl kk
      rw [k_X5_append_L3] at hk
      refine lv_iload_n hx hb dX5_append_3 rfl (lv_at hl 2 rfl) ?_
      refine lv_if_lt (tgt := 55) hx hb dX5_append_4 (by decide) (fun c_1 => ?_) (fun c_1 => ?_)
      · rw [if_pos c_1] at hk
        have e9 : f_X5_append_L3 x1 (n + 1) v2 w_tB w_tN = (v2, w_tB, w_tN) := by rw [f_X5_append_L3, if_pos c_1]
        rw [e9] at kk
        exact kk _ _ hP hD hS ls (lv_sub hl [0, 1, 2] rfl)
      · rw [if_neg c_1] at hk
        refine lv_aload_n hx hb dX5_append_7 rfl (lv_at hl 0 rfl) ?_
        refine va_get (D := gD G) (ci := 5) (v := .int w_tN) (C := RX5) (T := TX5) (N := 2) hx hb hts i_X5 hown hB.1 hP 0 rfl rfl 1 (by decide) t_0 (fun _ h9 => h9) rfl dX5_append_8 ?_
        refine lv_if_lt (tgt := 49) hx hb dX5_append_11 (by decide) (fun c_2 => ?_) (fun c_2 => ?_)
        · rw [if_pos c_2] at hk
          refine lv_iinc (v := (v2 + (-8))) (lv' := [(2, .int (v2 + (-8))), (0, .ref q_t), (1, .int x1)]) hx hb dX5_append_49 hl (k := 2) rfl (by rfl) (by decide) rfl (fun ls hl => ?_)
          refine lv_goto (tgt := 3) hx hb dX5_append_52 (by decide) ?_
          have e9 : f_X5_append_L3 x1 (n + 1) v2 w_tB w_tN = f_X5_append_L3 x1 n (v2 + (-8)) w_tB w_tN := by rw [f_X5_append_L3, if_neg c_1, if_pos c_2]
          rw [e9] at kk
          exact ih (v2 + (-8)) w_tB w_tN hk _ _ hP hD hS ls (lv_sub hl [1, 2, 0] rfl) kk
        · rw [if_neg c_2] at hk
          refine lv_aload_n hx hb dX5_append_14 rfl (lv_at hl 0 rfl) ?_
          refine va_get (D := gD G) (ci := 5) (v := .int w_tN) (C := RX5) (T := TX5) (N := 2) hx hb hts i_X5 hown hB.1 hP 0 rfl rfl 1 (by decide) t_0 (fun _ h9 => h9) rfl dX5_append_15 ?_
          refine lv_aload_n hx hb dX5_append_18 rfl (lv_at hl 0 rfl) ?_
          refine va_get (D := gD G) (ci := 5) (v := .ref q_tB) (C := RX5) (T := TX5) (N := 2) hx hb hts i_X5 hown hB.1 hP 0 rfl rfl 0 (by decide) t_1 (fun _ h9 => h9) rfl dX5_append_19 ?_
          refine va_alen (v := 740) hx hb hB.1 hP 1 0 rfl (ty := .byte) rfl rfl dX5_append_22 ?_
          refine lv_icmp_ge (tgt := 49) hx hb dX5_append_23 (by decide) (fun c_3 => ?_) (fun c_3 => ?_)
          · rw [if_pos c_3] at hk
            refine lv_iinc (v := (v2 + (-8))) (lv' := [(2, .int (v2 + (-8))), (0, .ref q_t), (1, .int x1)]) hx hb dX5_append_49 hl (k := 2) rfl (by rfl) (by decide) rfl (fun ls hl => ?_)
            refine lv_goto (tgt := 3) hx hb dX5_append_52 (by decide) ?_
            have e9 : f_X5_append_L3 x1 (n + 1) v2 w_tB w_tN = f_X5_append_L3 x1 n (v2 + (-8)) w_tB w_tN := by rw [f_X5_append_L3, if_neg c_1, if_neg c_2, if_pos c_3]
            rw [e9] at kk
            exact ih (v2 + (-8)) w_tB w_tN hk _ _ hP hD hS ls (lv_sub hl [1, 2, 0] rfl) kk
          · rw [if_neg c_3] at hk
            refine lv_aload_n hx hb dX5_append_26 rfl (lv_at hl 0 rfl) ?_
            refine va_get (D := gD G) (ci := 5) (v := .ref q_tB) (C := RX5) (T := TX5) (N := 2) hx hb hts i_X5 hown hB.1 hP 0 rfl rfl 0 (by decide) t_1 (fun _ h9 => h9) rfl dX5_append_27 ?_
            refine lv_aload_n hx hb dX5_append_30 rfl (lv_at hl 0 rfl) ?_
            refine va_get (D := gD G) (ci := 5) (v := .int w_tN) (C := RX5) (T := TX5) (N := 2) hx hb hts i_X5 hown hB.1 hP 0 rfl rfl 1 (by decide) t_0 (fun _ h9 => h9) rfl dX5_append_31 ?_
            refine lv_iload_n hx hb dX5_append_34 rfl (lv_at hl 1 rfl) ?_
            refine lv_iload_n hx hb dX5_append_35 rfl (lv_at hl 2 rfl) ?_
            refine lv_ishr hx hb dX5_append_36 ?_
            refine lv_i2b (v := (jbyte (x1 >>> (v2 &&& 31)))) hx hb dX5_append_37 rfl ?_
            refine va_bast hx hb hB.1 hP hD hS 1 0 rfl rfl (in_of c_2 c_3 (Nat.le_of_ble_eq_true rfl)) dX5_append_38 (fun H locs hP hD hS => ?_)
            have hP : va_P (gD G) vwCl [oX5 q_t q_tB w_tN, aB G q_tB 740 (upd w_tB (Int32.toNatClampNeg w_tN) (vp_nar .byte (jbyte (x1 >>> (v2 &&& 31)))))] H := hP
            have hD : va_D A [oX5 q_t q_tB w_tN, aB G q_tB 740 (upd w_tB (Int32.toNatClampNeg w_tN) (vp_nar .byte (jbyte (x1 >>> (v2 &&& 31)))))] := hD
            refine lv_aload_n hx hb dX5_append_39 rfl (lv_at hl 0 rfl) ?_
            refine lv_dup hx hb dX5_append_40 rfl ?_
            refine va_get (D := gD G) (ci := 5) (v := .int w_tN) (C := RX5) (T := TX5) (N := 2) hx hb hts i_X5 hown hB.1 hP 0 rfl rfl 1 (by decide) t_0 (fun _ h9 => h9) rfl dX5_append_41 ?_
            refine lv_iconst (v := 1) hx hb dX5_append_44 (by decide) ?_
            refine lv_iadd hx hb dX5_append_45 ?_
            refine va_put (D := gD G) (ci := 5) (v := .int (w_tN + 1)) (ty := .int) (C := RX5) (T := TX5) (N := 2) hx hb hts i_X5 tyX5 tyX5_ok nmX5 hown hB.1 hP hD hS 0 rfl rfl 1 (by decide) t_0 (fun _ h9 => h9) rfl (by decide +kernel) rfl rfl (Nat.le_of_ble_eq_true rfl) dX5_append_46 (fun H locs hP hD hS => ?_)
            have hP : va_P (gD G) vwCl [oX5 q_t q_tB (w_tN + 1), aB G q_tB 740 (upd w_tB (Int32.toNatClampNeg w_tN) (vp_nar .byte (jbyte (x1 >>> (v2 &&& 31)))))] H := hP
            have hD : va_D A [oX5 q_t q_tB (w_tN + 1), aB G q_tB 740 (upd w_tB (Int32.toNatClampNeg w_tN) (vp_nar .byte (jbyte (x1 >>> (v2 &&& 31)))))] := hD
            refine lv_iinc (v := (v2 + (-8))) (lv' := [(2, .int (v2 + (-8))), (0, .ref q_t), (1, .int x1)]) hx hb dX5_append_49 hl (k := 2) rfl (by rfl) (by decide) rfl (fun ls hl => ?_)
            refine lv_goto (tgt := 3) hx hb dX5_append_52 (by decide) ?_
            have e9 : f_X5_append_L3 x1 (n + 1) v2 w_tB w_tN = f_X5_append_L3 x1 n (v2 + (-8)) (upd w_tB (Int32.toNatClampNeg w_tN) (vp_nar .byte (jbyte (x1 >>> (v2 &&& 31))))) (w_tN + 1) := by rw [f_X5_append_L3, if_neg c_1, if_neg c_2, if_neg c_3]
            rw [e9] at kk
            exact ih (v2 + (-8)) (upd w_tB (Int32.toNatClampNeg w_tN) (vp_nar .byte (jbyte (x1 >>> (v2 &&& 31))))) (w_tN + 1) hk _ _ hP hD hS ls (lv_sub hl [1, 2, 0] rfl) kk
  obtain ⟨hkL, hk⟩ := hk
  refine L3 FU 24 tB tN hkL _ _ hP hD hS ls (lv_sub hl [1, 2, 0] rfl) (fun H locs hP hD hS ls hl => ?_)
  have hP : va_P (gD G) vwCl [oX5 q_t q_tB ((f_X5_append_L3 x1 FU 24 tB tN).2.2), aB G q_tB 740 ((f_X5_append_L3 x1 FU 24 tB tN).2.1)] H := hP
  have hD : va_D A [oX5 q_t q_tB ((f_X5_append_L3 x1 FU 24 tB tN).2.2), aB G q_tB 740 ((f_X5_append_L3 x1 FU 24 tB tN).2.1)] := hD
  have e9 : f_X5_append x1 tB tN = (((f_X5_append_L3 x1 FU 24 tB tN).2.1), ((f_X5_append_L3 x1 FU 24 tB tN).2.2)) := by rw [f_X5_append]
  exact fv 55 _ _ _ rfl dX5_append_55 rfl (by rw [e9]; exact hP) (by rw [e9]; exact hD) hS

noncomputable def f_X5_cutTo (x1 : Int32) (tN : Int32) : Int32 × Int32 := (if x1 < 0 then (0, tN) else (if x1 ≤ tN then (1, x1) else (0, tN)))
theorem hd_X5_cutTo : yX5_cutTo.cls ≠ "java/lang/invoke/MethodHandle" ∧ yX5_cutTo.cls ≠ "java/lang/invoke/VarHandle" ∧ (parseMethodDescriptor yX5_cutTo.desc).map (fun d => d.parameters.length) = some 1 := by decide +kernel
set_option maxHeartbeats 4000000 in
set_option maxRecDepth 100000 in
theorem c_X5_cutTo (l : Launch) (G : BGT) (q_t q_tB : Nat) (tN : Int32) (x1 : Int32) : WR l yX5_cutTo wsX5_cutTo 0 G [oX5 q_t q_tB tN] [oX5 q_t q_tB ((f_X5_cutTo x1 tN).2)] [.ref q_t, .int x1] (some (.int ((f_X5_cutTo x1 tN).1))) := by
  refine WR.ofW (cc := cX5_cutTo) (maxL := 2) (ret := (some .boolean)) (C := RX5) (by decide) rfl rfl (Nat.le_of_ble_eq_true rfl) ?_
  intro p e s m args below meth c Q ls A hx hb hml hts hown hP hD hS hA hB hl fi fv
  have hl : lv_has ls 2 [(0, .ref q_t), (1, .int x1)] := hl
  have t_0 := hts (.fieldLink RX5 13 "ParcelSplit$Tape" "size" "I") (by decide +kernel)
  have i_X5 : ∀ w ∈ wsX50, w ∈ wsX5_cutTo := by decide +kernel
  refine lv_iload_n hx hb dX5_cutTo_0 rfl (lv_at hl 1 rfl) ?_
  refine lv_if_lt (tgt := 12) hx hb dX5_cutTo_1 (by decide) (fun c_1 => ?_) (fun c_1 => ?_)
  · refine lv_iconst (v := 0) hx hb dX5_cutTo_12 (by decide) ?_
    have e9 : f_X5_cutTo x1 tN = (0, tN) := by rw [f_X5_cutTo, if_pos c_1]
    exact fi 13 _ 0 .boolean _ _ rfl rfl dX5_cutTo_13 (by simp only [e9]) (by rw [e9]; exact hP) (by rw [e9]; exact hD) hS
  · refine lv_iload_n hx hb dX5_cutTo_4 rfl (lv_at hl 1 rfl) ?_
    refine lv_aload_n hx hb dX5_cutTo_5 rfl (lv_at hl 0 rfl) ?_
    refine va_get (D := gD G) (ci := 5) (v := .int tN) (C := RX5) (T := TX5) (N := 2) hx hb hts i_X5 hown hB.1 hP 0 rfl rfl 1 (by decide) t_0 (fun _ h9 => h9) rfl dX5_cutTo_6 ?_
    refine lv_icmp_le (tgt := 14) hx hb dX5_cutTo_9 (by decide) (fun c_2 => ?_) (fun c_2 => ?_)
    · refine lv_aload_n hx hb dX5_cutTo_14 rfl (lv_at hl 0 rfl) ?_
      refine lv_iload_n hx hb dX5_cutTo_15 rfl (lv_at hl 1 rfl) ?_
      refine va_put (D := gD G) (ci := 5) (v := .int x1) (ty := .int) (C := RX5) (T := TX5) (N := 2) hx hb hts i_X5 tyX5 tyX5_ok nmX5 hown hB.1 hP hD hS 0 rfl rfl 1 (by decide) t_0 (fun _ h9 => h9) rfl (by decide +kernel) rfl rfl (Nat.le_of_ble_eq_true rfl) dX5_cutTo_16 (fun H locs hP hD hS => ?_)
      have hP : va_P (gD G) vwCl [oX5 q_t q_tB x1] H := hP
      have hD : va_D A [oX5 q_t q_tB x1] := hD
      refine lv_iconst (v := 1) hx hb dX5_cutTo_19 (by decide) ?_
      have e9 : f_X5_cutTo x1 tN = (1, x1) := by rw [f_X5_cutTo, if_neg c_1, if_pos c_2]
      exact fi 20 _ 1 .boolean _ _ rfl rfl dX5_cutTo_20 (by simp only [e9]) (by rw [e9]; exact hP) (by rw [e9]; exact hD) hS
    · refine lv_iconst (v := 0) hx hb dX5_cutTo_12 (by decide) ?_
      have e9 : f_X5_cutTo x1 tN = (0, tN) := by rw [f_X5_cutTo, if_neg c_1, if_neg c_2]
      exact fi 13 _ 0 .boolean _ _ rfl rfl dX5_cutTo_13 (by simp only [e9]) (by rw [e9]; exact hP) (by rw [e9]; exact hD) hS

noncomputable def f_X5_byteAt (x1 : Int32) (tB : Nat → Int32) (tN : Int32) : Int32 := (if x1 < 0 then 0 else (if tN ≤ x1 then 0 else (if 740 ≤ x1 then 0 else (tB (Int32.toNatClampNeg x1)))))
theorem hd_X5_byteAt : yX5_byteAt.cls ≠ "java/lang/invoke/MethodHandle" ∧ yX5_byteAt.cls ≠ "java/lang/invoke/VarHandle" ∧ (parseMethodDescriptor yX5_byteAt.desc).map (fun d => d.parameters.length) = some 1 := by decide +kernel
set_option maxHeartbeats 4000000 in
set_option maxRecDepth 100000 in
theorem c_X5_byteAt (l : Launch) (G : BGT) (q_t q_tB : Nat) (tN : Int32) (tB : Nat → Int32) (x1 : Int32) : RO l yX5_byteAt wsX5_byteAt 0 G [oX5 q_t q_tB tN, aB G q_tB 740 tB] [.ref q_t, .int x1] (some (.int (f_X5_byteAt x1 tB tN))) := by
  refine RO.ofW (cc := cX5_byteAt) (maxL := 2) (ret := (some .int)) (C := RX5) (by decide) rfl rfl (Nat.le_of_ble_eq_true rfl) ?_
  intro p e s m args below meth c Q ls hx hb hml hts hown hP hB hl fi fl fv
  have hS : va_S (fun _ => False) s.heap s.heap [] := va_S.rf
  have hl : lv_has ls 2 [(0, .ref q_t), (1, .int x1)] := hl
  have t_0 := hts (.fieldLink RX5 13 "ParcelSplit$Tape" "size" "I") (by decide +kernel)
  have t_1 := hts (.fieldLink RX5 9 "ParcelSplit$Tape" "bytes" "[B") (by decide +kernel)
  have i_X5 : ∀ w ∈ wsX50, w ∈ wsX5_byteAt := by decide +kernel
  refine lv_iload_n hx hb dX5_byteAt_0 rfl (lv_at hl 1 rfl) ?_
  refine lv_if_lt (tgt := 30) hx hb dX5_byteAt_1 (by decide) (fun c_1 => ?_) (fun c_1 => ?_)
  · refine lv_iconst (v := 0) hx hb dX5_byteAt_30 (by decide) ?_
    exact fi 31 _ 0 .int rfl rfl dX5_byteAt_31 (by rw [f_X5_byteAt, if_pos c_1])
  · refine lv_iload_n hx hb dX5_byteAt_4 rfl (lv_at hl 1 rfl) ?_
    refine lv_aload_n hx hb dX5_byteAt_5 rfl (lv_at hl 0 rfl) ?_
    refine va_get (D := gD G) (ci := 5) (v := .int tN) (C := RX5) (T := TX5) (N := 2) hx hb hts i_X5 hown hB.1 hP 0 rfl rfl 1 (by decide) t_0 (fun _ h9 => h9) rfl dX5_byteAt_6 ?_
    refine lv_icmp_ge (tgt := 30) hx hb dX5_byteAt_9 (by decide) (fun c_2 => ?_) (fun c_2 => ?_)
    · refine lv_iconst (v := 0) hx hb dX5_byteAt_30 (by decide) ?_
      exact fi 31 _ 0 .int rfl rfl dX5_byteAt_31 (by rw [f_X5_byteAt, if_neg c_1, if_pos c_2])
    · refine lv_iload_n hx hb dX5_byteAt_12 rfl (lv_at hl 1 rfl) ?_
      refine lv_aload_n hx hb dX5_byteAt_13 rfl (lv_at hl 0 rfl) ?_
      refine va_get (D := gD G) (ci := 5) (v := .ref q_tB) (C := RX5) (T := TX5) (N := 2) hx hb hts i_X5 hown hB.1 hP 0 rfl rfl 0 (by decide) t_1 (fun _ h9 => h9) rfl dX5_byteAt_14 ?_
      refine va_alen (v := 740) hx hb hB.1 hP 1 0 rfl (ty := .byte) rfl rfl dX5_byteAt_17 ?_
      refine lv_icmp_ge (tgt := 30) hx hb dX5_byteAt_18 (by decide) (fun c_3 => ?_) (fun c_3 => ?_)
      · refine lv_iconst (v := 0) hx hb dX5_byteAt_30 (by decide) ?_
        exact fi 31 _ 0 .int rfl rfl dX5_byteAt_31 (by rw [f_X5_byteAt, if_neg c_1, if_neg c_2, if_pos c_3])
      · refine lv_aload_n hx hb dX5_byteAt_21 rfl (lv_at hl 0 rfl) ?_
        refine va_get (D := gD G) (ci := 5) (v := .ref q_tB) (C := RX5) (T := TX5) (N := 2) hx hb hts i_X5 hown hB.1 hP 0 rfl rfl 0 (by decide) t_1 (fun _ h9 => h9) rfl dX5_byteAt_22 ?_
        refine lv_iload_n hx hb dX5_byteAt_25 rfl (lv_at hl 1 rfl) ?_
        refine va_bald hx hb hB.1 hP 1 0 rfl rfl (in_of c_1 c_3 (Nat.le_of_ble_eq_true rfl)) dX5_byteAt_26 ?_
        refine lv_goto (tgt := 31) hx hb dX5_byteAt_27 (by decide) ?_
        exact fi 31 _ (tB (Int32.toNatClampNeg x1)) .int rfl rfl dX5_byteAt_31 (by rw [f_X5_byteAt, if_neg c_1, if_neg c_2, if_neg c_3])
