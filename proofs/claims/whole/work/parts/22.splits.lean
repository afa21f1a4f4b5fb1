noncomputable def f_X7_splits_L6 : Nat → Int32 → (Nat → Int32) → (Nat → Int32) → Int32 × (Nat → Int32) × (Nat → Int32)
  | 0, v1, w_mB, w_mX => (v1, w_mB, w_mX)
  | n + 1, v1, w_mB, w_mX => (if 8 ≤ v1 then (v1, w_mB, w_mX) else f_X7_splits_L6  n (v1 + 1) (upd w_mB (Int32.toNatClampNeg v1) 1000000) (upd w_mX (Int32.toNatClampNeg v1) 0))
noncomputable def k_X7_splits_L6 : Nat → Int32 → (Nat → Int32) → (Nat → Int32) → Prop
  | 0, _, _, _ => False
  | n + 1, v1, w_mB, w_mX => (if 8 ≤ v1 then True else (vp_in v1 8 ∧ (vp_in v1 8 ∧ k_X7_splits_L6  n (v1 + 1) (upd w_mB (Int32.toNatClampNeg v1) 1000000) (upd w_mX (Int32.toNatClampNeg v1) 0))))
noncomputable def f_X7_splits_L45 (mN : Nat → Int32) (mC : Nat → Int32) (mH : Nat → Int32) (w_mW : Nat → Int32) (w_mB : Nat → Int32) (w_mX : Nat → Int32) (w_mE : Int32) : Int32 × (Nat → Int32) × (Nat → Int32) × (Nat → Int32) × (Nat → Int32) × (Nat → Int32) × Int32 := (if w_mE = 1000000 then ((-2), ((f_X7_laysCharges mN mC mH).1), ((f_X7_laysCharges mN mC mH).2), w_mW, w_mB, w_mX, w_mE) else (w_mE, ((f_X7_laysCharges mN mC mH).1), ((f_X7_laysCharges mN mC mH).2), w_mW, w_mB, w_mX, w_mE))
noncomputable def k_X7_splits_L45 (w_mW : Nat → Int32) (w_mB : Nat → Int32) (w_mX : Nat → Int32) (w_mE : Int32) : Prop := True
noncomputable def f_X7_splits (mN : Nat → Int32) (mC : Nat → Int32) (mH : Nat → Int32) (mW : Nat → Int32) (mB : Nat → Int32) (mX : Nat → Int32) : Int32 × (Nat → Int32) × (Nat → Int32) × (Nat → Int32) × (Nat → Int32) × (Nat → Int32) × Int32 := f_X7_splits_L45 mN mC mH ((f_X7_triesT 0 0 mN ((f_X7_laysCharges mN mC mH).1) ((f_X7_laysCharges mN mC mH).2) mW ((f_X7_splits_L6  FU 0 mB mX).2.1) ((f_X7_splits_L6  FU 0 mB mX).2.2) 1000000).1) ((f_X7_triesT 0 0 mN ((f_X7_laysCharges mN mC mH).1) ((f_X7_laysCharges mN mC mH).2) mW ((f_X7_splits_L6  FU 0 mB mX).2.1) ((f_X7_splits_L6  FU 0 mB mX).2.2) 1000000).2.1) ((f_X7_triesT 0 0 mN ((f_X7_laysCharges mN mC mH).1) ((f_X7_laysCharges mN mC mH).2) mW ((f_X7_splits_L6  FU 0 mB mX).2.1) ((f_X7_splits_L6  FU 0 mB mX).2.2) 1000000).2.2.1) ((f_X7_triesT 0 0 mN ((f_X7_laysCharges mN mC mH).1) ((f_X7_laysCharges mN mC mH).2) mW ((f_X7_splits_L6  FU 0 mB mX).2.1) ((f_X7_splits_L6  FU 0 mB mX).2.2) 1000000).2.2.2)
noncomputable def k_X7_splits (mN : Nat → Int32) (mC : Nat → Int32) (mH : Nat → Int32) (mW : Nat → Int32) (mB : Nat → Int32) (mX : Nat → Int32) : Prop := (k_X7_laysCharges mN mC mH ∧ (k_X7_splits_L6  FU 0 mB mX ∧ (k_X7_triesT 0 0 mN ((f_X7_laysCharges mN mC mH).1) ((f_X7_laysCharges mN mC mH).2) mW ((f_X7_splits_L6  FU 0 mB mX).2.1) ((f_X7_splits_L6  FU 0 mB mX).2.2) 1000000 ∧ k_X7_splits_L45  ((f_X7_triesT 0 0 mN ((f_X7_laysCharges mN mC mH).1) ((f_X7_laysCharges mN mC mH).2) mW ((f_X7_splits_L6  FU 0 mB mX).2.1) ((f_X7_splits_L6  FU 0 mB mX).2.2) 1000000).1) ((f_X7_triesT 0 0 mN ((f_X7_laysCharges mN mC mH).1) ((f_X7_laysCharges mN mC mH).2) mW ((f_X7_splits_L6  FU 0 mB mX).2.1) ((f_X7_splits_L6  FU 0 mB mX).2.2) 1000000).2.1) ((f_X7_triesT 0 0 mN ((f_X7_laysCharges mN mC mH).1) ((f_X7_laysCharges mN mC mH).2) mW ((f_X7_splits_L6  FU 0 mB mX).2.1) ((f_X7_splits_L6  FU 0 mB mX).2.2) 1000000).2.2.1) ((f_X7_triesT 0 0 mN ((f_X7_laysCharges mN mC mH).1) ((f_X7_laysCharges mN mC mH).2) mW ((f_X7_splits_L6  FU 0 mB mX).2.1) ((f_X7_splits_L6  FU 0 mB mX).2.2) 1000000).2.2.2))))
theorem hd_X7_splits : yX7_splits.cls ≠ "java/lang/invoke/MethodHandle" ∧ yX7_splits.cls ≠ "java/lang/invoke/VarHandle" ∧ (parseMethodDescriptor yX7_splits.desc).map (fun d => d.parameters.length) = some 0 := by decide +kernel
set_option maxHeartbeats 4000000 in
set_option maxRecDepth 100000 in
theorem c_X7_splits (l : Launch) (G : BGT) (q_m q_mA q_mN q_mR q_mS q_mC q_mH q_mW q_mB q_mX : Nat) (mT : Int32) (mK : Int32) (mZ : Int32) (mO : Int32) (mF : Int32) (mQ : Int32) (mU : Int32) (mG : Int32) (mP : Int32) (mY : Int64) (mV : Int32) (mL : Int32) (mE : Int32) (mN : Nat → Int32) (mC : Nat → Int32) (mH : Nat → Int32) (mW : Nat → Int32) (mB : Nat → Int32) (mX : Nat → Int32) (hk : k_X7_splits mN mC mH mW mB mX) : WR l yX7_splits wsX7_splits 21 G [oX7 q_m mT q_mA mK mZ mO mF mQ mU mG mP mY q_mN q_mR q_mS mV mL q_mC q_mH q_mW q_mB q_mX mE, aI G q_mN 181 mN, aI G q_mC 256 mC, aI G q_mH 256 mH, aI G q_mW 8 mW, aI G q_mB 8 mB, aI G q_mX 8 mX] [oX7 q_m mT q_mA mK mZ mO mF mQ mU mG mP mY q_mN q_mR q_mS mV mL q_mC q_mH q_mW q_mB q_mX ((f_X7_splits mN mC mH mW mB mX).2.2.2.2.2.2), aI G q_mN 181 mN, aI G q_mC 256 ((f_X7_splits mN mC mH mW mB mX).2.1), aI G q_mH 256 ((f_X7_splits mN mC mH mW mB mX).2.2.1), aI G q_mW 8 ((f_X7_splits mN mC mH mW mB mX).2.2.2.1), aI G q_mB 8 ((f_X7_splits mN mC mH mW mB mX).2.2.2.2.1), aI G q_mX 8 ((f_X7_splits mN mC mH mW mB mX).2.2.2.2.2.1)] [.ref q_m] (some (.int ((f_X7_splits mN mC mH mW mB mX).1))) := by
  refine WR.ofW (cc := cX7_splits) (maxL := 2) (ret := (some .int)) (C := RX7) (by decide) rfl rfl (Nat.le_of_ble_eq_true rfl) ?_
  intro p e s m args below meth c Q ls A hx hb hml hts hown hP hD hS hA hB hl fi fv
  have hl : lv_has ls 2 [(0, .ref q_m)] := hl
  have t_0 := hts (.fieldLink RX7 95 "ParcelSplitModel" "sets" "[I") (by decide +kernel)
  have t_1 := hts (.fieldLink RX7 92 "ParcelSplitModel" "best" "[I") (by decide +kernel)
  have t_2 := hts (.constant RX7 183 (1000000)) (by decide +kernel)
  have t_3 := hts (.fieldLink RX7 188 "ParcelSplitModel" "least" "I") (by decide +kernel)
  have i_X7 : ∀ w ∈ wsX70, w ∈ wsX7_splits := by decide +kernel
  have T45 : ∀ (w_mW : Nat → Int32) (w_mB : Nat → Int32) (w_mX : Nat → Int32) (w_mE : Int32), k_X7_splits_L45  w_mW w_mB w_mX w_mE → f_X7_splits mN mC mH mW mB mX = f_X7_splits_L45 mN mC mH w_mW w_mB w_mX w_mE → ∀ (H : Heap) (locs : List Loc), va_P (gD G) vwCl [oX7 q_m mT q_mA mK mZ mO mF mQ mU mG mP mY q_mN q_mR q_mS mV mL q_mC q_mH q_mW q_mB q_mX w_mE, aI G q_mN 181 mN, aI G q_mC 256 ((f_X7_laysCharges mN mC mH).1), aI G q_mH 256 ((f_X7_laysCharges mN mC mH).2), aI G q_mW 8 w_mW, aI G q_mB 8 w_mB, aI G q_mX 8 w_mX] H → va_D A [oX7 q_m mT q_mA mK mZ mO mF mQ mU mG mP mY q_mN q_mR q_mS mV mL q_mC q_mH q_mW q_mB q_mX w_mE, aI G q_mN 181 mN, aI G q_mC 256 ((f_X7_laysCharges mN mC mH).1), aI G q_mH 256 ((f_X7_laysCharges mN mC mH).2), aI G q_mW 8 w_mW, aI G q_mB 8 w_mB, aI G q_mX 8 w_mX] → va_S A s.heap H locs → ∀ (ls : Array Slot), lv_has ls 2 [(0, .ref q_m)] → W p l e (rm 21) s m args below meth c H locs 0 0 Q (F0 m 45 ls []) := by
    intro w_mW w_mB w_mX w_mE hk hv H locs hP hD hS ls hl
    rw [k_X7_splits_L45] at hk
    refine lv_aload_n hx hb dX7_splits_45 rfl (lv_at hl 0 rfl) ?_
    refine va_get (D := gD G) (ci := 7) (v := .int w_mE) (C := RX7) (T := TX7) (N := 22) hx hb hts i_X7 hown hB.1 hP 0 rfl rfl 21 (by decide) t_3 (fun _ h9 => h9) rfl dX7_splits_46 ?_
    refine lv_ldc (v := 1000000) hx hb hown t_2 dX7_splits_49 ?_
    refine lv_icmp_ne (tgt := 59) hx hb dX7_splits_51 (by decide) (fun c_6 => ?_) (fun c_6 => ?_)
    · refine lv_aload_n hx hb dX7_splits_59 rfl (lv_at hl 0 rfl) ?_
      refine va_get (D := gD G) (ci := 7) (v := .int w_mE) (C := RX7) (T := TX7) (N := 22) hx hb hts i_X7 hown hB.1 hP 0 rfl rfl 21 (by decide) t_3 (fun _ h9 => h9) rfl dX7_splits_60 ?_
      have e9 : f_X7_splits mN mC mH mW mB mX = (w_mE, ((f_X7_laysCharges mN mC mH).1), ((f_X7_laysCharges mN mC mH).2), w_mW, w_mB, w_mX, w_mE) := by rw [hv, f_X7_splits_L45, if_neg c_6]
      exact fi 63 _ w_mE .int _ _ rfl rfl dX7_splits_63 (by simp only [e9]) (by rw [e9]; exact hP) (by rw [e9]; exact hD) hS
    · refine lv_bipush (v := (-2)) hx hb dX7_splits_54 (by decide) ?_
      refine lv_goto (tgt := 63) hx hb dX7_splits_56 (by decide) ?_
      have e9 : f_X7_splits mN mC mH mW mB mX = ((-2), ((f_X7_laysCharges mN mC mH).1), ((f_X7_laysCharges mN mC mH).2), w_mW, w_mB, w_mX, w_mE) := by rw [hv, f_X7_splits_L45, if_pos c_6]
      exact fi 63 _ (-2) .int _ _ rfl rfl dX7_splits_63 (by simp only [e9]) (by rw [e9]; exact hP) (by rw [e9]; exact hD) hS
  rw [k_X7_splits] at hk
  refine lv_aload_n hx hb dX7_splits_0 rfl (lv_at hl 0 rfl) ?_
  obtain ⟨o_1, hk⟩ := hk
  refine wr_V (ci := 7) (q0 := 0) (As := []) (rest := []) (wr := [aI G q_mW 8 mW, aI G q_mB 8 mB, aI G q_mX 8 mX]) (wf := [oX7 q_m mT q_mA mK mZ mO mF mQ mU mG mP mY q_mN q_mR q_mS mV mL q_mC q_mH q_mW q_mB q_mX mE, aI G q_mN 181 mN, aI G q_mC 256 ((f_X7_laysCharges mN mC mH).1), aI G q_mH 256 ((f_X7_laysCharges mN mC mH).2), aI G q_mW 8 mW, aI G q_mB 8 mB, aI G q_mX 8 mX]) (c_X7_laysCharges l G q_m q_mA q_mN q_mR q_mS q_mC q_mH q_mW q_mB q_mX mT mK mZ mO mF mQ mU mG mP mY mV mL mE mN mC mH o_1) [0, 1, 2, 3] [4, 5, 6] [3, 4, 5, 6, 0, 1, 2] rfl rfl rfl (by decide) rfl rfl rfl gX7_splits_X7_laysCharges ⟨_, rfl⟩ hd_X7_laysCharges rfl dX7_splits_1 rfl rfl (Nat.le_of_ble_eq_true rfl) ⟨Nat.le_of_ble_eq_true rfl, Nat.le_of_ble_eq_true rfl⟩ ⟨Nat.le_refl 0, Nat.le_refl 0⟩ hx hb hml hown hts hB hD hS hA hP hl.1 (fun H locs hP hD hS => ?_)
  refine W.eq (g2 := F0 m 4 ls []) rfl ?_
  refine lv_iconst (v := 0) hx hb dX7_splits_4 (by decide) ?_
  refine lv_istore_n (lv' := [(1, .int 0), (0, .ref q_m)]) hx hb dX7_splits_5 rfl hl (by decide) rfl (fun ls hl => ?_)
  have L6 : ∀ (n : Nat) (v1 : Int32) (w_mB : Nat → Int32) (w_mX : Nat → Int32), k_X7_splits_L6  n v1 w_mB w_mX → ∀ (H : Heap) (locs : List Loc), va_P (gD G) vwCl [oX7 q_m mT q_mA mK mZ mO mF mQ mU mG mP mY q_mN q_mR q_mS mV mL q_mC q_mH q_mW q_mB q_mX mE, aI G q_mN 181 mN, aI G q_mC 256 ((f_X7_laysCharges mN mC mH).1), aI G q_mH 256 ((f_X7_laysCharges mN mC mH).2), aI G q_mW 8 mW, aI G q_mB 8 w_mB, aI G q_mX 8 w_mX] H → va_D A [oX7 q_m mT q_mA mK mZ mO mF mQ mU mG mP mY q_mN q_mR q_mS mV mL q_mC q_mH q_mW q_mB q_mX mE, aI G q_mN 181 mN, aI G q_mC 256 ((f_X7_laysCharges mN mC mH).1), aI G q_mH 256 ((f_X7_laysCharges mN mC mH).2), aI G q_mW 8 mW, aI G q_mB 8 w_mB, aI G q_mX 8 w_mX] → va_S A s.heap H locs → ∀ (ls : Array Slot), lv_has ls 2 [(0, .ref q_m), (1, .int v1)] → (∀ (H : Heap) (locs : List Loc), va_P (gD G) vwCl [oX7 q_m mT q_mA mK mZ mO mF mQ mU mG mP mY q_mN q_mR q_mS mV mL q_mC q_mH q_mW q_mB q_mX mE, aI G q_mN 181 mN, aI G q_mC 256 ((f_X7_laysCharges mN mC mH).1), aI G q_mH 256 ((f_X7_laysCharges mN mC mH).2), aI G q_mW 8 mW, aI G q_mB 8 ((f_X7_splits_L6  n v1 w_mB w_mX).2.1), aI G q_mX 8 ((f_X7_splits_L6  n v1 w_mB w_mX).2.2)] H → va_D A [oX7 q_m mT q_mA mK mZ mO mF mQ mU mG mP mY q_mN q_mR q_mS mV mL q_mC q_mH q_mW q_mB q_mX mE, aI G q_mN 181 mN, aI G q_mC 256 ((f_X7_laysCharges mN mC mH).1), aI G q_mH 256 ((f_X7_laysCharges mN mC mH).2), aI G q_mW 8 mW, aI G q_mB 8 ((f_X7_splits_L6  n v1 w_mB w_mX).2.1), aI G q_mX 8 ((f_X7_splits_L6  n v1 w_mB w_mX).2.2)] → va_S A s.heap H locs → ∀ (ls : Array Slot), lv_has ls 2 [(0, .ref q_m), (1, .int ((f_X7_splits_L6  n v1 w_mB w_mX).1))] → W p l e (rm 21) s m args below meth c H locs 0 0 Q (F0 m 33 ls [])) → W p l e (rm 21) s m args below meth c H locs 0 0 Q (F0 m 6 ls []) := by
    intro n
    induction n with
    | zero => intro v1 w_mB w_mX hk; exact (hk : False).elim
    | succ n ih =>
      intro v1 w_mB w_mX hk H locs hP hD hS ls hl kk
      rw [k_X7_splits_L6] at hk
      refine lv_iload_n hx hb dX7_splits_6 rfl (lv_at hl 1 rfl) ?_
      refine lv_bipush (v := 8) hx hb dX7_splits_7 (by decide) ?_
      refine lv_icmp_ge (tgt := 33) hx hb dX7_splits_9 (by decide) (fun c_2 => ?_) (fun c_2 => ?_)
      · rw [if_pos c_2] at hk
        have e9 : f_X7_splits_L6  (n + 1) v1 w_mB w_mX = (v1, w_mB, w_mX) := by rw [f_X7_splits_L6, if_pos c_2]
        rw [e9] at kk
        exact kk _ _ hP hD hS ls (lv_sub hl [0, 1] rfl)
      · rw [if_neg c_2] at hk
        refine lv_aload_n hx hb dX7_splits_12 rfl (lv_at hl 0 rfl) ?_
        refine va_get (D := gD G) (ci := 7) (v := .ref q_mX) (C := RX7) (T := TX7) (N := 22) hx hb hts i_X7 hown hB.1 hP 0 rfl rfl 20 (by decide) t_0 (fun _ h9 => h9) rfl dX7_splits_13 ?_
        refine lv_iload_n hx hb dX7_splits_16 rfl (lv_at hl 1 rfl) ?_
        refine lv_iconst (v := 0) hx hb dX7_splits_17 (by decide) ?_
        obtain ⟨o_3, hk⟩ := hk
        refine va_iast hx hb hB.1 hP hD hS 6 1 rfl rfl o_3 dX7_splits_18 (fun H locs hP hD hS => ?_)
        have hP : va_P (gD G) vwCl [oX7 q_m mT q_mA mK mZ mO mF mQ mU mG mP mY q_mN q_mR q_mS mV mL q_mC q_mH q_mW q_mB q_mX mE, aI G q_mN 181 mN, aI G q_mC 256 ((f_X7_laysCharges mN mC mH).1), aI G q_mH 256 ((f_X7_laysCharges mN mC mH).2), aI G q_mW 8 mW, aI G q_mB 8 w_mB, aI G q_mX 8 (upd w_mX (Int32.toNatClampNeg v1) 0)] H := hP
        have hD : va_D A [oX7 q_m mT q_mA mK mZ mO mF mQ mU mG mP mY q_mN q_mR q_mS mV mL q_mC q_mH q_mW q_mB q_mX mE, aI G q_mN 181 mN, aI G q_mC 256 ((f_X7_laysCharges mN mC mH).1), aI G q_mH 256 ((f_X7_laysCharges mN mC mH).2), aI G q_mW 8 mW, aI G q_mB 8 w_mB, aI G q_mX 8 (upd w_mX (Int32.toNatClampNeg v1) 0)] := hD
        refine lv_aload_n hx hb dX7_splits_19 rfl (lv_at hl 0 rfl) ?_
        refine va_get (D := gD G) (ci := 7) (v := .ref q_mB) (C := RX7) (T := TX7) (N := 22) hx hb hts i_X7 hown hB.1 hP 0 rfl rfl 19 (by decide) t_1 (fun _ h9 => h9) rfl dX7_splits_20 ?_
        refine lv_iload_n hx hb dX7_splits_23 rfl (lv_at hl 1 rfl) ?_
        refine lv_ldc (v := 1000000) hx hb hown t_2 dX7_splits_24 ?_
        obtain ⟨o_4, hk⟩ := hk
        refine va_iast hx hb hB.1 hP hD hS 5 1 rfl rfl o_4 dX7_splits_26 (fun H locs hP hD hS => ?_)
        have hP : va_P (gD G) vwCl [oX7 q_m mT q_mA mK mZ mO mF mQ mU mG mP mY q_mN q_mR q_mS mV mL q_mC q_mH q_mW q_mB q_mX mE, aI G q_mN 181 mN, aI G q_mC 256 ((f_X7_laysCharges mN mC mH).1), aI G q_mH 256 ((f_X7_laysCharges mN mC mH).2), aI G q_mW 8 mW, aI G q_mB 8 (upd w_mB (Int32.toNatClampNeg v1) 1000000), aI G q_mX 8 (upd w_mX (Int32.toNatClampNeg v1) 0)] H := hP
        have hD : va_D A [oX7 q_m mT q_mA mK mZ mO mF mQ mU mG mP mY q_mN q_mR q_mS mV mL q_mC q_mH q_mW q_mB q_mX mE, aI G q_mN 181 mN, aI G q_mC 256 ((f_X7_laysCharges mN mC mH).1), aI G q_mH 256 ((f_X7_laysCharges mN mC mH).2), aI G q_mW 8 mW, aI G q_mB 8 (upd w_mB (Int32.toNatClampNeg v1) 1000000), aI G q_mX 8 (upd w_mX (Int32.toNatClampNeg v1) 0)] := hD
        refine lv_iinc (v := (v1 + 1)) (lv' := [(1, .int (v1 + 1)), (0, .ref q_m)]) hx hb dX7_splits_27 hl (k := 1) rfl (by rfl) (by decide) rfl (fun ls hl => ?_)
        refine lv_goto (tgt := 6) hx hb dX7_splits_30 (by decide) ?_
        have e9 : f_X7_splits_L6  (n + 1) v1 w_mB w_mX = f_X7_splits_L6  n (v1 + 1) (upd w_mB (Int32.toNatClampNeg v1) 1000000) (upd w_mX (Int32.toNatClampNeg v1) 0) := by rw [f_X7_splits_L6, if_neg c_2]
        rw [e9] at kk
        exact ih (v1 + 1) (upd w_mB (Int32.toNatClampNeg v1) 1000000) (upd w_mX (Int32.toNatClampNeg v1) 0) hk _ _ hP hD hS ls (lv_sub hl [1, 0] rfl) kk
  obtain ⟨hkL, hk⟩ := hk
  refine L6 FU 0 mB mX hkL _ _ hP hD hS ls (lv_sub hl [1, 0] rfl) (fun H locs hP hD hS ls hl => ?_)
  have hP : va_P (gD G) vwCl [oX7 q_m mT q_mA mK mZ mO mF mQ mU mG mP mY q_mN q_mR q_mS mV mL q_mC q_mH q_mW q_mB q_mX mE, aI G q_mN 181 mN, aI G q_mC 256 ((f_X7_laysCharges mN mC mH).1), aI G q_mH 256 ((f_X7_laysCharges mN mC mH).2), aI G q_mW 8 mW, aI G q_mB 8 ((f_X7_splits_L6  FU 0 mB mX).2.1), aI G q_mX 8 ((f_X7_splits_L6  FU 0 mB mX).2.2)] H := hP
  have hD : va_D A [oX7 q_m mT q_mA mK mZ mO mF mQ mU mG mP mY q_mN q_mR q_mS mV mL q_mC q_mH q_mW q_mB q_mX mE, aI G q_mN 181 mN, aI G q_mC 256 ((f_X7_laysCharges mN mC mH).1), aI G q_mH 256 ((f_X7_laysCharges mN mC mH).2), aI G q_mW 8 mW, aI G q_mB 8 ((f_X7_splits_L6  FU 0 mB mX).2.1), aI G q_mX 8 ((f_X7_splits_L6  FU 0 mB mX).2.2)] := hD
  refine lv_aload_n hx hb dX7_splits_33 rfl (lv_at hl 0 rfl) ?_
  refine lv_ldc (v := 1000000) hx hb hown t_2 dX7_splits_34 ?_
  refine va_put (D := gD G) (ci := 7) (v := .int 1000000) (ty := .int) (C := RX7) (T := TX7) (N := 22) hx hb hts i_X7 tyX7 tyX7_ok nmX7 hown hB.1 hP hD hS 0 rfl rfl 21 (by decide) t_3 (fun _ h9 => h9) rfl (by decide +kernel) rfl rfl (Nat.le_of_ble_eq_true rfl) dX7_splits_36 (fun H locs hP hD hS => ?_)
  have hP : va_P (gD G) vwCl [oX7 q_m mT q_mA mK mZ mO mF mQ mU mG mP mY q_mN q_mR q_mS mV mL q_mC q_mH q_mW q_mB q_mX 1000000, aI G q_mN 181 mN, aI G q_mC 256 ((f_X7_laysCharges mN mC mH).1), aI G q_mH 256 ((f_X7_laysCharges mN mC mH).2), aI G q_mW 8 mW, aI G q_mB 8 ((f_X7_splits_L6  FU 0 mB mX).2.1), aI G q_mX 8 ((f_X7_splits_L6  FU 0 mB mX).2.2)] H := hP
  have hD : va_D A [oX7 q_m mT q_mA mK mZ mO mF mQ mU mG mP mY q_mN q_mR q_mS mV mL q_mC q_mH q_mW q_mB q_mX 1000000, aI G q_mN 181 mN, aI G q_mC 256 ((f_X7_laysCharges mN mC mH).1), aI G q_mH 256 ((f_X7_laysCharges mN mC mH).2), aI G q_mW 8 mW, aI G q_mB 8 ((f_X7_splits_L6  FU 0 mB mX).2.1), aI G q_mX 8 ((f_X7_splits_L6  FU 0 mB mX).2.2)] := hD
  refine lv_aload_n hx hb dX7_splits_39 rfl (lv_at hl 0 rfl) ?_
  refine lv_iconst (v := 0) hx hb dX7_splits_40 (by decide) ?_
  refine lv_iconst (v := 0) hx hb dX7_splits_41 (by decide) ?_
  obtain ⟨o_5, hk⟩ := hk
  refine wr_V (ci := 7) (q0 := 0) (As := [.int 0, .int 0]) (rest := []) (wr := []) (wf := [oX7 q_m mT q_mA mK mZ mO mF mQ mU mG mP mY q_mN q_mR q_mS mV mL q_mC q_mH q_mW q_mB q_mX ((f_X7_triesT 0 0 mN ((f_X7_laysCharges mN mC mH).1) ((f_X7_laysCharges mN mC mH).2) mW ((f_X7_splits_L6  FU 0 mB mX).2.1) ((f_X7_splits_L6  FU 0 mB mX).2.2) 1000000).2.2.2), aI G q_mN 181 mN, aI G q_mC 256 ((f_X7_laysCharges mN mC mH).1), aI G q_mH 256 ((f_X7_laysCharges mN mC mH).2), aI G q_mW 8 ((f_X7_triesT 0 0 mN ((f_X7_laysCharges mN mC mH).1) ((f_X7_laysCharges mN mC mH).2) mW ((f_X7_splits_L6  FU 0 mB mX).2.1) ((f_X7_splits_L6  FU 0 mB mX).2.2) 1000000).1), aI G q_mB 8 ((f_X7_triesT 0 0 mN ((f_X7_laysCharges mN mC mH).1) ((f_X7_laysCharges mN mC mH).2) mW ((f_X7_splits_L6  FU 0 mB mX).2.1) ((f_X7_splits_L6  FU 0 mB mX).2.2) 1000000).2.1), aI G q_mX 8 ((f_X7_triesT 0 0 mN ((f_X7_laysCharges mN mC mH).1) ((f_X7_laysCharges mN mC mH).2) mW ((f_X7_splits_L6  FU 0 mB mX).2.1) ((f_X7_splits_L6  FU 0 mB mX).2.2) 1000000).2.2.1)]) (c_X7_triesT l G q_m q_mA q_mN q_mR q_mS q_mC q_mH q_mW q_mB q_mX mT mK mZ mO mF mQ mU mG mP mY mV mL 1000000 mN ((f_X7_laysCharges mN mC mH).1) ((f_X7_laysCharges mN mC mH).2) mW ((f_X7_splits_L6  FU 0 mB mX).2.1) ((f_X7_splits_L6  FU 0 mB mX).2.2) 0 0 o_5) [0, 1, 2, 3, 4, 5, 6] [] [0, 1, 2, 3, 4, 5, 6] rfl rfl rfl (by decide) rfl rfl rfl gX7_splits_X7_tries ⟨_, rfl⟩ hd_X7_tries rfl dX7_splits_42 rfl rfl (Nat.le_of_ble_eq_true rfl) ⟨Nat.le_of_ble_eq_true rfl, Nat.le_of_ble_eq_true rfl⟩ ⟨Nat.le_refl 0, Nat.le_refl 0⟩ hx hb hml hown hts hB hD hS hA hP hl.1 (fun H locs hP hD hS => ?_)
  refine W.eq (g2 := F0 m 45 ls []) rfl ?_
  exact T45 ((f_X7_triesT 0 0 mN ((f_X7_laysCharges mN mC mH).1) ((f_X7_laysCharges mN mC mH).2) mW ((f_X7_splits_L6  FU 0 mB mX).2.1) ((f_X7_splits_L6  FU 0 mB mX).2.2) 1000000).1) ((f_X7_triesT 0 0 mN ((f_X7_laysCharges mN mC mH).1) ((f_X7_laysCharges mN mC mH).2) mW ((f_X7_splits_L6  FU 0 mB mX).2.1) ((f_X7_splits_L6  FU 0 mB mX).2.2) 1000000).2.1) ((f_X7_triesT 0 0 mN ((f_X7_laysCharges mN mC mH).1) ((f_X7_laysCharges mN mC mH).2) mW ((f_X7_splits_L6  FU 0 mB mX).2.1) ((f_X7_splits_L6  FU 0 mB mX).2.2) 1000000).2.2.1) ((f_X7_triesT 0 0 mN ((f_X7_laysCharges mN mC mH).1) ((f_X7_laysCharges mN mC mH).2) mW ((f_X7_splits_L6  FU 0 mB mX).2.1) ((f_X7_splits_L6  FU 0 mB mX).2.2) 1000000).2.2.2) hk (by rw [f_X7_splits]) _ _ hP hD hS ls (lv_sub hl [0] rfl)

noncomputable def f_X7_least (mN : Nat → Int32) (mC : Nat → Int32) (mH : Nat → Int32) (mW : Nat → Int32) (mB : Nat → Int32) (mX : Nat → Int32) : Int32 × (Nat → Int32) × (Nat → Int32) × (Nat → Int32) × (Nat → Int32) × (Nat → Int32) × Int32 × Int32 := (((f_X7_splits mN mC mH mW mB mX).1), ((f_X7_splits mN mC mH mW mB mX).2.1), ((f_X7_splits mN mC mH mW mB mX).2.2.1), ((f_X7_splits mN mC mH mW mB mX).2.2.2.1), ((f_X7_splits mN mC mH mW mB mX).2.2.2.2.1), ((f_X7_splits mN mC mH mW mB mX).2.2.2.2.2.1), 0, ((f_X7_splits mN mC mH mW mB mX).2.2.2.2.2.2))
noncomputable def k_X7_least (mN : Nat → Int32) (mC : Nat → Int32) (mH : Nat → Int32) (mW : Nat → Int32) (mB : Nat → Int32) (mX : Nat → Int32) : Prop := (k_X7_splits mN mC mH mW mB mX ∧ True)
theorem hd_X7_least : yX7_least.cls ≠ "java/lang/invoke/MethodHandle" ∧ yX7_least.cls ≠ "java/lang/invoke/VarHandle" ∧ (parseMethodDescriptor yX7_least.desc).map (fun d => d.parameters.length) = some 0 := by decide +kernel
set_option maxHeartbeats 4000000 in
set_option maxRecDepth 100000 in
theorem c_X7_least (l : Launch) (G : BGT) (q_m q_mA q_mN q_mR q_mS q_mC q_mH q_mW q_mB q_mX : Nat) (mT : Int32) (mK : Int32) (mZ : Int32) (mO : Int32) (mF : Int32) (mQ : Int32) (mU : Int32) (mG : Int32) (mP : Int32) (mY : Int64) (mV : Int32) (mL : Int32) (mE : Int32) (mN : Nat → Int32) (mC : Nat → Int32) (mH : Nat → Int32) (mW : Nat → Int32) (mB : Nat → Int32) (mX : Nat → Int32) (hk : k_X7_least mN mC mH mW mB mX) : WR l yX7_least wsX7_least 22 G [oX7 q_m mT q_mA mK mZ mO mF mQ mU mG mP mY q_mN q_mR q_mS mV mL q_mC q_mH q_mW q_mB q_mX mE, aI G q_mN 181 mN, aI G q_mC 256 mC, aI G q_mH 256 mH, aI G q_mW 8 mW, aI G q_mB 8 mB, aI G q_mX 8 mX] [oX7 q_m ((f_X7_least mN mC mH mW mB mX).2.2.2.2.2.2.1) q_mA mK mZ mO mF mQ mU mG mP mY q_mN q_mR q_mS mV mL q_mC q_mH q_mW q_mB q_mX ((f_X7_least mN mC mH mW mB mX).2.2.2.2.2.2.2), aI G q_mN 181 mN, aI G q_mC 256 ((f_X7_least mN mC mH mW mB mX).2.1), aI G q_mH 256 ((f_X7_least mN mC mH mW mB mX).2.2.1), aI G q_mW 8 ((f_X7_least mN mC mH mW mB mX).2.2.2.1), aI G q_mB 8 ((f_X7_least mN mC mH mW mB mX).2.2.2.2.1), aI G q_mX 8 ((f_X7_least mN mC mH mW mB mX).2.2.2.2.2.1)] [.ref q_m] (some (.int ((f_X7_least mN mC mH mW mB mX).1))) := by
  refine WR.ofW (cc := cX7_least) (maxL := 1) (ret := (some .int)) (C := RX7) (by decide) rfl rfl (Nat.le_of_ble_eq_true rfl) ?_
  intro p e s m args below meth c Q ls A hx hb hml hts hown hP hD hS hA hB hl fi fv
  have hl : lv_has ls 1 [(0, .ref q_m)] := hl
  have t_0 := hts (.fieldLink RX7 1 "ParcelSplitModel" "thrown" "I") (by decide +kernel)
  have i_X7 : ∀ w ∈ wsX70, w ∈ wsX7_least := by decide +kernel
  rw [k_X7_least] at hk
  refine lv_aload_n hx hb dX7_least_0 rfl (lv_at hl 0 rfl) ?_
  refine lv_iconst (v := 0) hx hb dX7_least_1 (by decide) ?_
  refine va_put (D := gD G) (ci := 7) (v := .int 0) (ty := .int) (C := RX7) (T := TX7) (N := 22) hx hb hts i_X7 tyX7 tyX7_ok nmX7 hown hB.1 hP hD hS 0 rfl rfl 0 (by decide) t_0 (fun _ h9 => h9) rfl (by decide +kernel) rfl rfl (Nat.le_of_ble_eq_true rfl) dX7_least_2 (fun H locs hP hD hS => ?_)
  have hP : va_P (gD G) vwCl [oX7 q_m 0 q_mA mK mZ mO mF mQ mU mG mP mY q_mN q_mR q_mS mV mL q_mC q_mH q_mW q_mB q_mX mE, aI G q_mN 181 mN, aI G q_mC 256 mC, aI G q_mH 256 mH, aI G q_mW 8 mW, aI G q_mB 8 mB, aI G q_mX 8 mX] H := hP
  have hD : va_D A [oX7 q_m 0 q_mA mK mZ mO mF mQ mU mG mP mY q_mN q_mR q_mS mV mL q_mC q_mH q_mW q_mB q_mX mE, aI G q_mN 181 mN, aI G q_mC 256 mC, aI G q_mH 256 mH, aI G q_mW 8 mW, aI G q_mB 8 mB, aI G q_mX 8 mX] := hD
  refine lv_aload_n hx hb dX7_least_5 rfl (lv_at hl 0 rfl) ?_
  obtain ⟨o_1, hk⟩ := hk
  refine wr_V (ci := 7) (q0 := 0) (As := []) (rest := []) (wr := []) (wf := [oX7 q_m 0 q_mA mK mZ mO mF mQ mU mG mP mY q_mN q_mR q_mS mV mL q_mC q_mH q_mW q_mB q_mX ((f_X7_splits mN mC mH mW mB mX).2.2.2.2.2.2), aI G q_mN 181 mN, aI G q_mC 256 ((f_X7_splits mN mC mH mW mB mX).2.1), aI G q_mH 256 ((f_X7_splits mN mC mH mW mB mX).2.2.1), aI G q_mW 8 ((f_X7_splits mN mC mH mW mB mX).2.2.2.1), aI G q_mB 8 ((f_X7_splits mN mC mH mW mB mX).2.2.2.2.1), aI G q_mX 8 ((f_X7_splits mN mC mH mW mB mX).2.2.2.2.2.1)]) (c_X7_splits l G q_m q_mA q_mN q_mR q_mS q_mC q_mH q_mW q_mB q_mX 0 mK mZ mO mF mQ mU mG mP mY mV mL mE mN mC mH mW mB mX o_1) [0, 1, 2, 3, 4, 5, 6] [] [0, 1, 2, 3, 4, 5, 6] rfl rfl rfl (by decide) rfl rfl rfl gX7_least_X7_splits ⟨_, rfl⟩ hd_X7_splits rfl dX7_least_6 rfl rfl (Nat.le_of_ble_eq_true rfl) ⟨Nat.le_of_ble_eq_true rfl, Nat.le_of_ble_eq_true rfl⟩ ⟨Nat.le_refl 0, Nat.le_refl 0⟩ hx hb hml hown hts hB hD hS hA hP hl.1 (fun H locs hP hD hS => ?_)
  refine W.eq (g2 := F0 m 9 ls [.int ((f_X7_splits mN mC mH mW mB mX).1)]) rfl ?_
  have e9 : f_X7_least mN mC mH mW mB mX = (((f_X7_splits mN mC mH mW mB mX).1), ((f_X7_splits mN mC mH mW mB mX).2.1), ((f_X7_splits mN mC mH mW mB mX).2.2.1), ((f_X7_splits mN mC mH mW mB mX).2.2.2.1), ((f_X7_splits mN mC mH mW mB mX).2.2.2.2.1), ((f_X7_splits mN mC mH mW mB mX).2.2.2.2.2.1), 0, ((f_X7_splits mN mC mH mW mB mX).2.2.2.2.2.2)) := by rw [f_X7_least]
  exact fi 9 _ ((f_X7_splits mN mC mH mW mB mX).1) .int _ _ rfl rfl dX7_least_9 (by simp only [e9]) (by rw [e9]; exact hP) (by rw [e9]; exact hD) hS

noncomputable def f_X7_split (x1 : Int32) (x2 : Int32) (mN : Nat → Int32) (mC : Nat → Int32) (mH : Nat → Int32) (mW : Nat → Int32) (mB : Nat → Int32) (mX : Nat → Int32) (mE : Int32) : Int32 × (Nat → Int32) × (Nat → Int32) × (Nat → Int32) × (Nat → Int32) × (Nat → Int32) × Int32 × Int32 := (if (f_X7_isGood x1 mN) = 0 then ((-1), mC, mH, mW, mB, mX, 0, mE) else (if (f_X7_isIn x2 0 1) = 0 then ((-1), mC, mH, mW, mB, mX, 0, mE) else (if ((f_X7_splits mN mC mH mW mB mX).1) = (-2) then ((-2), ((f_X7_splits mN mC mH mW mB mX).2.1), ((f_X7_splits mN mC mH mW mB mX).2.2.1), ((f_X7_splits mN mC mH mW mB mX).2.2.2.1), ((f_X7_splits mN mC mH mW mB mX).2.2.2.2.1), ((f_X7_splits mN mC mH mW mB mX).2.2.2.2.2.1), 0, ((f_X7_splits mN mC mH mW mB mX).2.2.2.2.2.2)) else (if x2 = 0 then (((((f_X7_splits mN mC mH mW mB mX).2.2.2.2.1) (Int32.toNatClampNeg x1)) / 3), ((f_X7_splits mN mC mH mW mB mX).2.1), ((f_X7_splits mN mC mH mW mB mX).2.2.1), ((f_X7_splits mN mC mH mW mB mX).2.2.2.1), ((f_X7_splits mN mC mH mW mB mX).2.2.2.2.1), ((f_X7_splits mN mC mH mW mB mX).2.2.2.2.2.1), 0, ((f_X7_splits mN mC mH mW mB mX).2.2.2.2.2.2)) else ((jrem (((f_X7_splits mN mC mH mW mB mX).2.2.2.2.1) (Int32.toNatClampNeg x1)) 3), ((f_X7_splits mN mC mH mW mB mX).2.1), ((f_X7_splits mN mC mH mW mB mX).2.2.1), ((f_X7_splits mN mC mH mW mB mX).2.2.2.1), ((f_X7_splits mN mC mH mW mB mX).2.2.2.2.1), ((f_X7_splits mN mC mH mW mB mX).2.2.2.2.2.1), 0, ((f_X7_splits mN mC mH mW mB mX).2.2.2.2.2.2))))))
noncomputable def k_X7_split (x1 : Int32) (x2 : Int32) (mN : Nat → Int32) (mC : Nat → Int32) (mH : Nat → Int32) (mW : Nat → Int32) (mB : Nat → Int32) (mX : Nat → Int32) : Prop := (k_X7_isGood x1 mN ∧ (if (f_X7_isGood x1 mN) = 0 then True else (if (f_X7_isIn x2 0 1) = 0 then True else (k_X7_splits mN mC mH mW mB mX ∧ (if ((f_X7_splits mN mC mH mW mB mX).1) = (-2) then True else (if x2 = 0 then (vp_in x1 8 ∧ True) else (vp_in x1 8 ∧ True)))))))
theorem hd_X7_split : yX7_split.cls ≠ "java/lang/invoke/MethodHandle" ∧ yX7_split.cls ≠ "java/lang/invoke/VarHandle" ∧ (parseMethodDescriptor yX7_split.desc).map (fun d => d.parameters.length) = some 2 := by decide +kernel
set_option maxHeartbeats 4000000 in
set_option maxRecDepth 100000 in
theorem c_X7_split (l : Launch) (G : BGT) (q_m q_mA q_mN q_mR q_mS q_mC q_mH q_mW q_mB q_mX : Nat) (mT : Int32) (mK : Int32) (mZ : Int32) (mO : Int32) (mF : Int32) (mQ : Int32) (mU : Int32) (mG : Int32) (mP : Int32) (mY : Int64) (mV : Int32) (mL : Int32) (mE : Int32) (mN : Nat → Int32) (mC : Nat → Int32) (mH : Nat → Int32) (mW : Nat → Int32) (mB : Nat → Int32) (mX : Nat → Int32) (x1 : Int32) (x2 : Int32) (hk : k_X7_split x1 x2 mN mC mH mW mB mX) : WR l yX7_split wsX7_split 22 G [oX7 q_m mT q_mA mK mZ mO mF mQ mU mG mP mY q_mN q_mR q_mS mV mL q_mC q_mH q_mW q_mB q_mX mE, aI G q_mN 181 mN, aI G q_mC 256 mC, aI G q_mH 256 mH, aI G q_mW 8 mW, aI G q_mB 8 mB, aI G q_mX 8 mX] [oX7 q_m ((f_X7_split x1 x2 mN mC mH mW mB mX mE).2.2.2.2.2.2.1) q_mA mK mZ mO mF mQ mU mG mP mY q_mN q_mR q_mS mV mL q_mC q_mH q_mW q_mB q_mX ((f_X7_split x1 x2 mN mC mH mW mB mX mE).2.2.2.2.2.2.2), aI G q_mN 181 mN, aI G q_mC 256 ((f_X7_split x1 x2 mN mC mH mW mB mX mE).2.1), aI G q_mH 256 ((f_X7_split x1 x2 mN mC mH mW mB mX mE).2.2.1), aI G q_mW 8 ((f_X7_split x1 x2 mN mC mH mW mB mX mE).2.2.2.1), aI G q_mB 8 ((f_X7_split x1 x2 mN mC mH mW mB mX mE).2.2.2.2.1), aI G q_mX 8 ((f_X7_split x1 x2 mN mC mH mW mB mX mE).2.2.2.2.2.1)] [.ref q_m, .int x1, .int x2] (some (.int ((f_X7_split x1 x2 mN mC mH mW mB mX mE).1))) := by
  refine WR.ofW (cc := cX7_split) (maxL := 3) (ret := (some .int)) (C := RX7) (by decide) rfl rfl (Nat.le_of_ble_eq_true rfl) ?_
  intro p e s m args below meth c Q ls A hx hb hml hts hown hP hD hS hA hB hl fi fv
  have hl : lv_has ls 3 [(0, .ref q_m), (1, .int x1), (2, .int x2)] := hl
  have t_0 := hts (.fieldLink RX7 1 "ParcelSplitModel" "thrown" "I") (by decide +kernel)
  have t_1 := hts (.fieldLink RX7 92 "ParcelSplitModel" "best" "[I") (by decide +kernel)
  have i_X7 : ∀ w ∈ wsX70, w ∈ wsX7_split := by decide +kernel
  rw [k_X7_split] at hk
  refine lv_aload_n hx hb dX7_split_0 rfl (lv_at hl 0 rfl) ?_
  refine lv_iconst (v := 0) hx hb dX7_split_1 (by decide) ?_
  refine va_put (D := gD G) (ci := 7) (v := .int 0) (ty := .int) (C := RX7) (T := TX7) (N := 22) hx hb hts i_X7 tyX7 tyX7_ok nmX7 hown hB.1 hP hD hS 0 rfl rfl 0 (by decide) t_0 (fun _ h9 => h9) rfl (by decide +kernel) rfl rfl (Nat.le_of_ble_eq_true rfl) dX7_split_2 (fun H locs hP hD hS => ?_)
  have hP : va_P (gD G) vwCl [oX7 q_m 0 q_mA mK mZ mO mF mQ mU mG mP mY q_mN q_mR q_mS mV mL q_mC q_mH q_mW q_mB q_mX mE, aI G q_mN 181 mN, aI G q_mC 256 mC, aI G q_mH 256 mH, aI G q_mW 8 mW, aI G q_mB 8 mB, aI G q_mX 8 mX] H := hP
  have hD : va_D A [oX7 q_m 0 q_mA mK mZ mO mF mQ mU mG mP mY q_mN q_mR q_mS mV mL q_mC q_mH q_mW q_mB q_mX mE, aI G q_mN 181 mN, aI G q_mC 256 mC, aI G q_mH 256 mH, aI G q_mW 8 mW, aI G q_mB 8 mB, aI G q_mX 8 mX] := hD
  refine lv_aload_n hx hb dX7_split_5 rfl (lv_at hl 0 rfl) ?_
  refine lv_iload_n hx hb dX7_split_6 rfl (lv_at hl 1 rfl) ?_
  obtain ⟨o_1, hk⟩ := hk
  refine ro_V (ci := 7) (q0 := 0) (As := [.int x1]) (rest := []) (c_X7_isGood l G q_m q_mA q_mN q_mR q_mS q_mC q_mH q_mW q_mB q_mX 0 mK mZ mO mF mQ mU mG mP mY mV mL mE mN x1 o_1) [0, 1] rfl rfl rfl rfl gX7_split_X7_isGood ⟨_, rfl⟩ hd_X7_isGood rfl dX7_split_7 rfl rfl (Nat.le_of_ble_eq_true rfl) ⟨Nat.le_of_ble_eq_true rfl, Nat.le_of_ble_eq_true rfl⟩ ⟨Nat.le_refl 0, Nat.le_refl 0⟩ hx hb hml hown hts hB hS hP hl.1 ?_
  refine W.eq (g2 := F0 m 10 ls [.int (f_X7_isGood x1 mN)]) rfl ?_
  refine lv_if_eq (tgt := 22) hx hb dX7_split_10 (by decide) (fun c_2 => ?_) (fun c_2 => ?_)
  · rw [if_pos c_2] at hk
    refine lv_iconst (v := (-1)) hx hb dX7_split_22 (by decide) ?_
    have e9 : f_X7_split x1 x2 mN mC mH mW mB mX mE = ((-1), mC, mH, mW, mB, mX, 0, mE) := by rw [f_X7_split, if_pos c_2]
    exact fi 23 _ (-1) .int _ _ rfl rfl dX7_split_23 (by simp only [e9]) (by rw [e9]; exact hP) (by rw [e9]; exact hD) hS
  · rw [if_neg c_2] at hk
    refine lv_iload_n hx hb dX7_split_13 rfl (lv_at hl 2 rfl) ?_
    refine lv_iconst (v := 0) hx hb dX7_split_14 (by decide) ?_
    refine lv_iconst (v := 1) hx hb dX7_split_15 (by decide) ?_
    refine ro_S (As := [.int x2, .int 0, .int 1]) (rest := []) (c_X7_isIn l G x2 0 1) [] rfl gX7_split_X7_isIn ⟨_, rfl⟩ hd_X7_isIn dX7_split_16 rfl rfl (Nat.le_of_ble_eq_true rfl) ⟨Nat.le_of_ble_eq_true rfl, Nat.le_of_ble_eq_true rfl⟩ ⟨Nat.le_refl 0, Nat.le_refl 0⟩ hx hb hml hown hts hB hS hP hl.1 ?_
    refine W.eq (g2 := F0 m 19 ls [.int (f_X7_isIn x2 0 1)]) rfl ?_
    refine lv_if_ne (tgt := 24) hx hb dX7_split_19 (by decide) (fun c_3 => ?_) (fun c_3 => ?_)
    · rw [if_neg c_3] at hk
      refine lv_aload_n hx hb dX7_split_24 rfl (lv_at hl 0 rfl) ?_
      obtain ⟨o_4, hk⟩ := hk
      refine wr_V (ci := 7) (q0 := 0) (As := []) (rest := []) (wr := []) (wf := [oX7 q_m 0 q_mA mK mZ mO mF mQ mU mG mP mY q_mN q_mR q_mS mV mL q_mC q_mH q_mW q_mB q_mX ((f_X7_splits mN mC mH mW mB mX).2.2.2.2.2.2), aI G q_mN 181 mN, aI G q_mC 256 ((f_X7_splits mN mC mH mW mB mX).2.1), aI G q_mH 256 ((f_X7_splits mN mC mH mW mB mX).2.2.1), aI G q_mW 8 ((f_X7_splits mN mC mH mW mB mX).2.2.2.1), aI G q_mB 8 ((f_X7_splits mN mC mH mW mB mX).2.2.2.2.1), aI G q_mX 8 ((f_X7_splits mN mC mH mW mB mX).2.2.2.2.2.1)]) (c_X7_splits l G q_m q_mA q_mN q_mR q_mS q_mC q_mH q_mW q_mB q_mX 0 mK mZ mO mF mQ mU mG mP mY mV mL mE mN mC mH mW mB mX o_4) [0, 1, 2, 3, 4, 5, 6] [] [0, 1, 2, 3, 4, 5, 6] rfl rfl rfl (by decide) rfl rfl rfl gX7_split_X7_splits ⟨_, rfl⟩ hd_X7_splits rfl dX7_split_25 rfl rfl (Nat.le_of_ble_eq_true rfl) ⟨Nat.le_of_ble_eq_true rfl, Nat.le_of_ble_eq_true rfl⟩ ⟨Nat.le_refl 0, Nat.le_refl 0⟩ hx hb hml hown hts hB hD hS hA hP hl.1 (fun H locs hP hD hS => ?_)
      refine W.eq (g2 := F0 m 28 ls [.int ((f_X7_splits mN mC mH mW mB mX).1)]) rfl ?_
      refine lv_bipush (v := (-2)) hx hb dX7_split_28 (by decide) ?_
      refine lv_icmp_ne (tgt := 36) hx hb dX7_split_30 (by decide) (fun c_5 => ?_) (fun c_5 => ?_)
      · rw [if_neg c_5] at hk
        refine lv_iload_n hx hb dX7_split_36 rfl (lv_at hl 2 rfl) ?_
        refine lv_if_ne (tgt := 51) hx hb dX7_split_37 (by decide) (fun c_6 => ?_) (fun c_6 => ?_)
        · rw [if_neg c_6] at hk
          refine lv_aload_n hx hb dX7_split_51 rfl (lv_at hl 0 rfl) ?_
          refine va_get (D := gD G) (ci := 7) (v := .ref q_mB) (C := RX7) (T := TX7) (N := 22) hx hb hts i_X7 hown hB.1 hP 0 rfl rfl 19 (by decide) t_1 (fun _ h9 => h9) rfl dX7_split_52 ?_
          refine lv_iload_n hx hb dX7_split_55 rfl (lv_at hl 1 rfl) ?_
          obtain ⟨o_7, hk⟩ := hk
          refine va_iald hx hb hB.1 hP 5 1 rfl rfl o_7 dX7_split_56 ?_
          refine lv_iconst (v := 3) hx hb dX7_split_57 (by decide) ?_
          refine lv_irem hx hb dX7_split_58 (by decide) ?_
          refine W.eq (g2 := F0 m 59 ls [.int (jrem (((f_X7_splits mN mC mH mW mB mX).2.2.2.2.1) (Int32.toNatClampNeg x1)) 3)]) rfl ?_
          have e9 : f_X7_split x1 x2 mN mC mH mW mB mX mE = ((jrem (((f_X7_splits mN mC mH mW mB mX).2.2.2.2.1) (Int32.toNatClampNeg x1)) 3), ((f_X7_splits mN mC mH mW mB mX).2.1), ((f_X7_splits mN mC mH mW mB mX).2.2.1), ((f_X7_splits mN mC mH mW mB mX).2.2.2.1), ((f_X7_splits mN mC mH mW mB mX).2.2.2.2.1), ((f_X7_splits mN mC mH mW mB mX).2.2.2.2.2.1), 0, ((f_X7_splits mN mC mH mW mB mX).2.2.2.2.2.2)) := by rw [f_X7_split, if_neg c_2, if_neg c_3, if_neg c_5, if_neg c_6]
          exact fi 59 _ (jrem (((f_X7_splits mN mC mH mW mB mX).2.2.2.2.1) (Int32.toNatClampNeg x1)) 3) .int _ _ rfl rfl dX7_split_59 (by simp only [e9]) (by rw [e9]; exact hP) (by rw [e9]; exact hD) hS
        · rw [if_pos c_6] at hk
          refine lv_aload_n hx hb dX7_split_40 rfl (lv_at hl 0 rfl) ?_
          refine va_get (D := gD G) (ci := 7) (v := .ref q_mB) (C := RX7) (T := TX7) (N := 22) hx hb hts i_X7 hown hB.1 hP 0 rfl rfl 19 (by decide) t_1 (fun _ h9 => h9) rfl dX7_split_41 ?_
          refine lv_iload_n hx hb dX7_split_44 rfl (lv_at hl 1 rfl) ?_
          obtain ⟨o_8, hk⟩ := hk
          refine va_iald hx hb hB.1 hP 5 1 rfl rfl o_8 dX7_split_45 ?_
          refine lv_iconst (v := 3) hx hb dX7_split_46 (by decide) ?_
          refine lv_idiv hx hb dX7_split_47 (by decide) ?_
          refine lv_goto (tgt := 59) hx hb dX7_split_48 (by decide) ?_
          have e9 : f_X7_split x1 x2 mN mC mH mW mB mX mE = (((((f_X7_splits mN mC mH mW mB mX).2.2.2.2.1) (Int32.toNatClampNeg x1)) / 3), ((f_X7_splits mN mC mH mW mB mX).2.1), ((f_X7_splits mN mC mH mW mB mX).2.2.1), ((f_X7_splits mN mC mH mW mB mX).2.2.2.1), ((f_X7_splits mN mC mH mW mB mX).2.2.2.2.1), ((f_X7_splits mN mC mH mW mB mX).2.2.2.2.2.1), 0, ((f_X7_splits mN mC mH mW mB mX).2.2.2.2.2.2)) := by rw [f_X7_split, if_neg c_2, if_neg c_3, if_neg c_5, if_pos c_6]
          exact fi 59 _ ((((f_X7_splits mN mC mH mW mB mX).2.2.2.2.1) (Int32.toNatClampNeg x1)) / 3) .int _ _ rfl rfl dX7_split_59 (by simp only [e9]) (by rw [e9]; exact hP) (by rw [e9]; exact hD) hS
      · rw [if_pos c_5] at hk
        refine lv_bipush (v := (-2)) hx hb dX7_split_33 (by decide) ?_
        have e9 : f_X7_split x1 x2 mN mC mH mW mB mX mE = ((-2), ((f_X7_splits mN mC mH mW mB mX).2.1), ((f_X7_splits mN mC mH mW mB mX).2.2.1), ((f_X7_splits mN mC mH mW mB mX).2.2.2.1), ((f_X7_splits mN mC mH mW mB mX).2.2.2.2.1), ((f_X7_splits mN mC mH mW mB mX).2.2.2.2.2.1), 0, ((f_X7_splits mN mC mH mW mB mX).2.2.2.2.2.2)) := by rw [f_X7_split, if_neg c_2, if_neg c_3, if_pos c_5]
        exact fi 35 _ (-2) .int _ _ rfl rfl dX7_split_35 (by simp only [e9]) (by rw [e9]; exact hP) (by rw [e9]; exact hD) hS
    · rw [if_pos c_3] at hk
      refine lv_iconst (v := (-1)) hx hb dX7_split_22 (by decide) ?_
      have e9 : f_X7_split x1 x2 mN mC mH mW mB mX mE = ((-1), mC, mH, mW, mB, mX, 0, mE) := by rw [f_X7_split, if_neg c_2, if_pos c_3]
      exact fi 23 _ (-1) .int _ _ rfl rfl dX7_split_23 (by simp only [e9]) (by rw [e9]; exact hP) (by rw [e9]; exact hD) hS

noncomputable def f_X7_gap (mN : Nat → Int32) (mC : Nat → Int32) (mH : Nat → Int32) (mW : Nat → Int32) (mB : Nat → Int32) (mX : Nat → Int32) : Int32 × (Nat → Int32) × (Nat → Int32) × (Nat → Int32) × (Nat → Int32) × (Nat → Int32) × Int32 × Int32 := (if ((f_X7_splits mN mC mH mW mB mX).1) = (-2) then ((-1), ((f_X7_splits mN mC mH mW mB mX).2.1), ((f_X7_splits mN mC mH mW mB mX).2.2.1), ((f_X7_splits mN mC mH mW mB mX).2.2.2.1), ((f_X7_splits mN mC mH mW mB mX).2.2.2.2.1), ((f_X7_splits mN mC mH mW mB mX).2.2.2.2.2.1), 0, ((f_X7_splits mN mC mH mW mB mX).2.2.2.2.2.2)) else (if (f_X7_boundOf mN) = (-2) then ((-1), ((f_X7_splits mN mC mH mW mB mX).2.1), ((f_X7_splits mN mC mH mW mB mX).2.2.1), ((f_X7_splits mN mC mH mW mB mX).2.2.2.1), ((f_X7_splits mN mC mH mW mB mX).2.2.2.2.1), ((f_X7_splits mN mC mH mW mB mX).2.2.2.2.2.1), 0, ((f_X7_splits mN mC mH mW mB mX).2.2.2.2.2.2)) else ((((f_X7_splits mN mC mH mW mB mX).1) - (f_X7_boundOf mN)), ((f_X7_splits mN mC mH mW mB mX).2.1), ((f_X7_splits mN mC mH mW mB mX).2.2.1), ((f_X7_splits mN mC mH mW mB mX).2.2.2.1), ((f_X7_splits mN mC mH mW mB mX).2.2.2.2.1), ((f_X7_splits mN mC mH mW mB mX).2.2.2.2.2.1), 0, ((f_X7_splits mN mC mH mW mB mX).2.2.2.2.2.2))))
noncomputable def k_X7_gap (mN : Nat → Int32) (mC : Nat → Int32) (mH : Nat → Int32) (mW : Nat → Int32) (mB : Nat → Int32) (mX : Nat → Int32) : Prop := (k_X7_splits mN mC mH mW mB mX ∧ (if ((f_X7_splits mN mC mH mW mB mX).1) = (-2) then True else (k_X7_boundOf mN ∧ (if (f_X7_boundOf mN) = (-2) then True else (k_X7_boundOf mN ∧ True)))))
theorem hd_X7_gap : yX7_gap.cls ≠ "java/lang/invoke/MethodHandle" ∧ yX7_gap.cls ≠ "java/lang/invoke/VarHandle" ∧ (parseMethodDescriptor yX7_gap.desc).map (fun d => d.parameters.length) = some 0 := by decide +kernel
set_option maxHeartbeats 4000000 in
set_option maxRecDepth 100000 in
theorem c_X7_gap (l : Launch) (G : BGT) (q_m q_mA q_mN q_mR q_mS q_mC q_mH q_mW q_mB q_mX : Nat) (mT : Int32) (mK : Int32) (mZ : Int32) (mO : Int32) (mF : Int32) (mQ : Int32) (mU : Int32) (mG : Int32) (mP : Int32) (mY : Int64) (mV : Int32) (mL : Int32) (mE : Int32) (mN : Nat → Int32) (mC : Nat → Int32) (mH : Nat → Int32) (mW : Nat → Int32) (mB : Nat → Int32) (mX : Nat → Int32) (hk : k_X7_gap mN mC mH mW mB mX) : WR l yX7_gap wsX7_gap 22 G [oX7 q_m mT q_mA mK mZ mO mF mQ mU mG mP mY q_mN q_mR q_mS mV mL q_mC q_mH q_mW q_mB q_mX mE, aI G q_mN 181 mN, aI G q_mC 256 mC, aI G q_mH 256 mH, aI G q_mW 8 mW, aI G q_mB 8 mB, aI G q_mX 8 mX] [oX7 q_m ((f_X7_gap mN mC mH mW mB mX).2.2.2.2.2.2.1) q_mA mK mZ mO mF mQ mU mG mP mY q_mN q_mR q_mS mV mL q_mC q_mH q_mW q_mB q_mX ((f_X7_gap mN mC mH mW mB mX).2.2.2.2.2.2.2), aI G q_mN 181 mN, aI G q_mC 256 ((f_X7_gap mN mC mH mW mB mX).2.1), aI G q_mH 256 ((f_X7_gap mN mC mH mW mB mX).2.2.1), aI G q_mW 8 ((f_X7_gap mN mC mH mW mB mX).2.2.2.1), aI G q_mB 8 ((f_X7_gap mN mC mH mW mB mX).2.2.2.2.1), aI G q_mX 8 ((f_X7_gap mN mC mH mW mB mX).2.2.2.2.2.1)] [.ref q_m] (some (.int ((f_X7_gap mN mC mH mW mB mX).1))) := by
  refine WR.ofW (cc := cX7_gap) (maxL := 2) (ret := (some .int)) (C := RX7) (by decide) rfl rfl (Nat.le_of_ble_eq_true rfl) ?_
  intro p e s m args below meth c Q ls A hx hb hml hts hown hP hD hS hA hB hl fi fv
  have hl : lv_has ls 2 [(0, .ref q_m)] := hl
  have t_0 := hts (.fieldLink RX7 1 "ParcelSplitModel" "thrown" "I") (by decide +kernel)
  have i_X7 : ∀ w ∈ wsX70, w ∈ wsX7_gap := by decide +kernel
  rw [k_X7_gap] at hk
  refine lv_aload_n hx hb dX7_gap_0 rfl (lv_at hl 0 rfl) ?_
  refine lv_iconst (v := 0) hx hb dX7_gap_1 (by decide) ?_
  refine va_put (D := gD G) (ci := 7) (v := .int 0) (ty := .int) (C := RX7) (T := TX7) (N := 22) hx hb hts i_X7 tyX7 tyX7_ok nmX7 hown hB.1 hP hD hS 0 rfl rfl 0 (by decide) t_0 (fun _ h9 => h9) rfl (by decide +kernel) rfl rfl (Nat.le_of_ble_eq_true rfl) dX7_gap_2 (fun H locs hP hD hS => ?_)
  have hP : va_P (gD G) vwCl [oX7 q_m 0 q_mA mK mZ mO mF mQ mU mG mP mY q_mN q_mR q_mS mV mL q_mC q_mH q_mW q_mB q_mX mE, aI G q_mN 181 mN, aI G q_mC 256 mC, aI G q_mH 256 mH, aI G q_mW 8 mW, aI G q_mB 8 mB, aI G q_mX 8 mX] H := hP
  have hD : va_D A [oX7 q_m 0 q_mA mK mZ mO mF mQ mU mG mP mY q_mN q_mR q_mS mV mL q_mC q_mH q_mW q_mB q_mX mE, aI G q_mN 181 mN, aI G q_mC 256 mC, aI G q_mH 256 mH, aI G q_mW 8 mW, aI G q_mB 8 mB, aI G q_mX 8 mX] := hD
  refine lv_aload_n hx hb dX7_gap_5 rfl (lv_at hl 0 rfl) ?_
  obtain ⟨o_1, hk⟩ := hk
  refine wr_V (ci := 7) (q0 := 0) (As := []) (rest := []) (wr := []) (wf := [oX7 q_m 0 q_mA mK mZ mO mF mQ mU mG mP mY q_mN q_mR q_mS mV mL q_mC q_mH q_mW q_mB q_mX ((f_X7_splits mN mC mH mW mB mX).2.2.2.2.2.2), aI G q_mN 181 mN, aI G q_mC 256 ((f_X7_splits mN mC mH mW mB mX).2.1), aI G q_mH 256 ((f_X7_splits mN mC mH mW mB mX).2.2.1), aI G q_mW 8 ((f_X7_splits mN mC mH mW mB mX).2.2.2.1), aI G q_mB 8 ((f_X7_splits mN mC mH mW mB mX).2.2.2.2.1), aI G q_mX 8 ((f_X7_splits mN mC mH mW mB mX).2.2.2.2.2.1)]) (c_X7_splits l G q_m q_mA q_mN q_mR q_mS q_mC q_mH q_mW q_mB q_mX 0 mK mZ mO mF mQ mU mG mP mY mV mL mE mN mC mH mW mB mX o_1) [0, 1, 2, 3, 4, 5, 6] [] [0, 1, 2, 3, 4, 5, 6] rfl rfl rfl (by decide) rfl rfl rfl gX7_gap_X7_splits ⟨_, rfl⟩ hd_X7_splits rfl dX7_gap_6 rfl rfl (Nat.le_of_ble_eq_true rfl) ⟨Nat.le_of_ble_eq_true rfl, Nat.le_of_ble_eq_true rfl⟩ ⟨Nat.le_refl 0, Nat.le_refl 0⟩ hx hb hml hown hts hB hD hS hA hP hl.1 (fun H locs hP hD hS => ?_)
  refine W.eq (g2 := F0 m 9 ls [.int ((f_X7_splits mN mC mH mW mB mX).1)]) rfl ?_
  refine lv_istore_n (lv' := [(1, .int ((f_X7_splits mN mC mH mW mB mX).1)), (0, .ref q_m)]) hx hb dX7_gap_9 rfl hl (by decide) rfl (fun ls hl => ?_)
  refine lv_iload_n hx hb dX7_gap_10 rfl (lv_at hl 0 rfl) ?_
  refine lv_bipush (v := (-2)) hx hb dX7_gap_11 (by decide) ?_
  refine lv_icmp_eq (tgt := 25) hx hb dX7_gap_13 (by decide) (fun c_2 => ?_) (fun c_2 => ?_)
  · rw [if_pos c_2] at hk
    refine lv_iconst (v := (-1)) hx hb dX7_gap_25 (by decide) ?_
    refine lv_goto (tgt := 35) hx hb dX7_gap_26 (by decide) ?_
    have e9 : f_X7_gap mN mC mH mW mB mX = ((-1), ((f_X7_splits mN mC mH mW mB mX).2.1), ((f_X7_splits mN mC mH mW mB mX).2.2.1), ((f_X7_splits mN mC mH mW mB mX).2.2.2.1), ((f_X7_splits mN mC mH mW mB mX).2.2.2.2.1), ((f_X7_splits mN mC mH mW mB mX).2.2.2.2.2.1), 0, ((f_X7_splits mN mC mH mW mB mX).2.2.2.2.2.2)) := by rw [f_X7_gap, if_pos c_2]
    exact fi 35 _ (-1) .int _ _ rfl rfl dX7_gap_35 (by simp only [e9]) (by rw [e9]; exact hP) (by rw [e9]; exact hD) hS
  · rw [if_neg c_2] at hk
    refine lv_aload_n hx hb dX7_gap_16 rfl (lv_at hl 1 rfl) ?_
    obtain ⟨o_3, hk⟩ := hk
    refine ro_V (ci := 7) (q0 := 0) (As := []) (rest := []) (c_X7_boundOf l G q_m q_mA q_mN q_mR q_mS q_mC q_mH q_mW q_mB q_mX 0 mK mZ mO mF mQ mU mG mP mY mV mL ((f_X7_splits mN mC mH mW mB mX).2.2.2.2.2.2) mN o_3) [0, 1] rfl rfl rfl rfl gX7_gap_X7_boundOf ⟨_, rfl⟩ hd_X7_boundOf rfl dX7_gap_17 rfl rfl (Nat.le_of_ble_eq_true rfl) ⟨Nat.le_of_ble_eq_true rfl, Nat.le_of_ble_eq_true rfl⟩ ⟨Nat.le_refl 0, Nat.le_refl 0⟩ hx hb hml hown hts hB hS hP hl.1 ?_
    refine W.eq (g2 := F0 m 20 ls [.int (f_X7_boundOf mN)]) rfl ?_
    refine lv_bipush (v := (-2)) hx hb dX7_gap_20 (by decide) ?_
    refine lv_icmp_ne (tgt := 29) hx hb dX7_gap_22 (by decide) (fun c_4 => ?_) (fun c_4 => ?_)
    · rw [if_neg c_4] at hk
      refine lv_iload_n hx hb dX7_gap_29 rfl (lv_at hl 0 rfl) ?_
      refine lv_aload_n hx hb dX7_gap_30 rfl (lv_at hl 1 rfl) ?_
      obtain ⟨o_5, hk⟩ := hk
      refine ro_V (ci := 7) (q0 := 0) (As := []) (rest := [.int ((f_X7_splits mN mC mH mW mB mX).1)]) (c_X7_boundOf l G q_m q_mA q_mN q_mR q_mS q_mC q_mH q_mW q_mB q_mX 0 mK mZ mO mF mQ mU mG mP mY mV mL ((f_X7_splits mN mC mH mW mB mX).2.2.2.2.2.2) mN o_5) [0, 1] rfl rfl rfl rfl gX7_gap_X7_boundOf ⟨_, rfl⟩ hd_X7_boundOf rfl dX7_gap_31 rfl rfl (Nat.le_of_ble_eq_true rfl) ⟨Nat.le_of_ble_eq_true rfl, Nat.le_of_ble_eq_true rfl⟩ ⟨Nat.le_refl 0, Nat.le_refl 0⟩ hx hb hml hown hts hB hS hP hl.1 ?_
      refine W.eq (g2 := F0 m 34 ls [.int (f_X7_boundOf mN), .int ((f_X7_splits mN mC mH mW mB mX).1)]) rfl ?_
      refine lv_isub hx hb dX7_gap_34 ?_
      have e9 : f_X7_gap mN mC mH mW mB mX = ((((f_X7_splits mN mC mH mW mB mX).1) - (f_X7_boundOf mN)), ((f_X7_splits mN mC mH mW mB mX).2.1), ((f_X7_splits mN mC mH mW mB mX).2.2.1), ((f_X7_splits mN mC mH mW mB mX).2.2.2.1), ((f_X7_splits mN mC mH mW mB mX).2.2.2.2.1), ((f_X7_splits mN mC mH mW mB mX).2.2.2.2.2.1), 0, ((f_X7_splits mN mC mH mW mB mX).2.2.2.2.2.2)) := by rw [f_X7_gap, if_neg c_2, if_neg c_4]
      exact fi 35 _ (((f_X7_splits mN mC mH mW mB mX).1) - (f_X7_boundOf mN)) .int _ _ rfl rfl dX7_gap_35 (by simp only [e9]) (by rw [e9]; exact hP) (by rw [e9]; exact hD) hS
    · rw [if_pos c_4] at hk
      refine lv_iconst (v := (-1)) hx hb dX7_gap_25 (by decide) ?_
      refine lv_goto (tgt := 35) hx hb dX7_gap_26 (by decide) ?_
      have e9 : f_X7_gap mN mC mH mW mB mX = ((-1), ((f_X7_splits mN mC mH mW mB mX).2.1), ((f_X7_splits mN mC mH mW mB mX).2.2.1), ((f_X7_splits mN mC mH mW mB mX).2.2.2.1), ((f_X7_splits mN mC mH mW mB mX).2.2.2.2.1), ((f_X7_splits mN mC mH mW mB mX).2.2.2.2.2.1), 0, ((f_X7_splits mN mC mH mW mB mX).2.2.2.2.2.2)) := by rw [f_X7_gap, if_neg c_2, if_pos c_4]
      exact fi 35 _ (-1) .int _ _ rfl rfl dX7_gap_35 (by simp only [e9]) (by rw [e9]; exact hP) (by rw [e9]; exact hD) hS

noncomputable def f_X7_would_L65 (v5 : Int32) (w_mN : Nat → Int32) (w_mC : Nat → Int32) (w_mH : Nat → Int32) (w_mW : Nat → Int32) (w_mB : Nat → Int32) (w_mX : Nat → Int32) (w_mE : Int32) : Int32 × (Nat → Int32) × (Nat → Int32) × (Nat → Int32) × (Nat → Int32) × (Nat → Int32) × (Nat → Int32) × Int32 × Int32 := (v5, w_mN, w_mC, w_mH, w_mW, w_mB, w_mX, 0, w_mE)
noncomputable def k_X7_would_L65 (v5 : Int32) (w_mN : Nat → Int32) (w_mC : Nat → Int32) (w_mH : Nat → Int32) (w_mW : Nat → Int32) (w_mB : Nat → Int32) (w_mX : Nat → Int32) (w_mE : Int32) : Prop := True
noncomputable def f_X7_would (x1 : Int32) (x2 : Int32) (mN : Nat → Int32) (mC : Nat → Int32) (mH : Nat → Int32) (mW : Nat → Int32) (mB : Nat → Int32) (mX : Nat → Int32) (mE : Int32) : Int32 × (Nat → Int32) × (Nat → Int32) × (Nat → Int32) × (Nat → Int32) × (Nat → Int32) × (Nat → Int32) × Int32 × Int32 := (if (f_X7_isOrder x1 x2) = 0 then ((-1), mN, mC, mH, mW, mB, mX, 0, mE) else f_X7_would_L65  ((f_X7_splits (upd (upd mN (Int32.toNatClampNeg 2) x1) (Int32.toNatClampNeg 3) x2) mC mH mW mB mX).1) (upd (upd (upd (upd mN (Int32.toNatClampNeg 2) x1) (Int32.toNatClampNeg 3) x2) (Int32.toNatClampNeg 2) (mN (Int32.toNatClampNeg 2))) (Int32.toNatClampNeg 3) (mN (Int32.toNatClampNeg 3))) ((f_X7_splits (upd (upd mN (Int32.toNatClampNeg 2) x1) (Int32.toNatClampNeg 3) x2) mC mH mW mB mX).2.1) ((f_X7_splits (upd (upd mN (Int32.toNatClampNeg 2) x1) (Int32.toNatClampNeg 3) x2) mC mH mW mB mX).2.2.1) ((f_X7_splits (upd (upd mN (Int32.toNatClampNeg 2) x1) (Int32.toNatClampNeg 3) x2) mC mH mW mB mX).2.2.2.1) ((f_X7_splits (upd (upd mN (Int32.toNatClampNeg 2) x1) (Int32.toNatClampNeg 3) x2) mC mH mW mB mX).2.2.2.2.1) ((f_X7_splits (upd (upd mN (Int32.toNatClampNeg 2) x1) (Int32.toNatClampNeg 3) x2) mC mH mW mB mX).2.2.2.2.2.1) ((f_X7_splits (upd (upd mN (Int32.toNatClampNeg 2) x1) (Int32.toNatClampNeg 3) x2) mC mH mW mB mX).2.2.2.2.2.2))
noncomputable def k_X7_would (x1 : Int32) (x2 : Int32) (mN : Nat → Int32) (mC : Nat → Int32) (mH : Nat → Int32) (mW : Nat → Int32) (mB : Nat → Int32) (mX : Nat → Int32) : Prop := (if (f_X7_isOrder x1 x2) = 0 then True else (k_X7_splits (upd (upd mN (Int32.toNatClampNeg 2) x1) (Int32.toNatClampNeg 3) x2) mC mH mW mB mX ∧ k_X7_would_L65  ((f_X7_splits (upd (upd mN (Int32.toNatClampNeg 2) x1) (Int32.toNatClampNeg 3) x2) mC mH mW mB mX).1) (upd (upd (upd (upd mN (Int32.toNatClampNeg 2) x1) (Int32.toNatClampNeg 3) x2) (Int32.toNatClampNeg 2) (mN (Int32.toNatClampNeg 2))) (Int32.toNatClampNeg 3) (mN (Int32.toNatClampNeg 3))) ((f_X7_splits (upd (upd mN (Int32.toNatClampNeg 2) x1) (Int32.toNatClampNeg 3) x2) mC mH mW mB mX).2.1) ((f_X7_splits (upd (upd mN (Int32.toNatClampNeg 2) x1) (Int32.toNatClampNeg 3) x2) mC mH mW mB mX).2.2.1) ((f_X7_splits (upd (upd mN (Int32.toNatClampNeg 2) x1) (Int32.toNatClampNeg 3) x2) mC mH mW mB mX).2.2.2.1) ((f_X7_splits (upd (upd mN (Int32.toNatClampNeg 2) x1) (Int32.toNatClampNeg 3) x2) mC mH mW mB mX).2.2.2.2.1) ((f_X7_splits (upd (upd mN (Int32.toNatClampNeg 2) x1) (Int32.toNatClampNeg 3) x2) mC mH mW mB mX).2.2.2.2.2.1) ((f_X7_splits (upd (upd mN (Int32.toNatClampNeg 2) x1) (Int32.toNatClampNeg 3) x2) mC mH mW mB mX).2.2.2.2.2.2)))
theorem hd_X7_would : yX7_would.cls ≠ "java/lang/invoke/MethodHandle" ∧ yX7_would.cls ≠ "java/lang/invoke/VarHandle" ∧ (parseMethodDescriptor yX7_would.desc).map (fun d => d.parameters.length) = some 2 := by decide +kernel
set_option maxHeartbeats 4000000 in
set_option maxRecDepth 100000 in
theorem c_X7_would (l : Launch) (G : BGT) (q_m q_mA q_mN q_mR q_mS q_mC q_mH q_mW q_mB q_mX : Nat) (mT : Int32) (mK : Int32) (mZ : Int32) (mO : Int32) (mF : Int32) (mQ : Int32) (mU : Int32) (mG : Int32) (mP : Int32) (mY : Int64) (mV : Int32) (mL : Int32) (mE : Int32) (mN : Nat → Int32) (mC : Nat → Int32) (mH : Nat → Int32) (mW : Nat → Int32) (mB : Nat → Int32) (mX : Nat → Int32) (x1 : Int32) (x2 : Int32) (hk : k_X7_would x1 x2 mN mC mH mW mB mX) : WR l yX7_would wsX7_would 22 G [oX7 q_m mT q_mA mK mZ mO mF mQ mU mG mP mY q_mN q_mR q_mS mV mL q_mC q_mH q_mW q_mB q_mX mE, aI G q_mN 181 mN, aI G q_mC 256 mC, aI G q_mH 256 mH, aI G q_mW 8 mW, aI G q_mB 8 mB, aI G q_mX 8 mX] [oX7 q_m ((f_X7_would x1 x2 mN mC mH mW mB mX mE).2.2.2.2.2.2.2.1) q_mA mK mZ mO mF mQ mU mG mP mY q_mN q_mR q_mS mV mL q_mC q_mH q_mW q_mB q_mX ((f_X7_would x1 x2 mN mC mH mW mB mX mE).2.2.2.2.2.2.2.2), aI G q_mN 181 ((f_X7_would x1 x2 mN mC mH mW mB mX mE).2.1), aI G q_mC 256 ((f_X7_would x1 x2 mN mC mH mW mB mX mE).2.2.1), aI G q_mH 256 ((f_X7_would x1 x2 mN mC mH mW mB mX mE).2.2.2.1), aI G q_mW 8 ((f_X7_would x1 x2 mN mC mH mW mB mX mE).2.2.2.2.1), aI G q_mB 8 ((f_X7_would x1 x2 mN mC mH mW mB mX mE).2.2.2.2.2.1), aI G q_mX 8 ((f_X7_would x1 x2 mN mC mH mW mB mX mE).2.2.2.2.2.2.1)] [.ref q_m, .int x1, .int x2] (some (.int ((f_X7_would x1 x2 mN mC mH mW mB mX mE).1))) := by
  refine WR.ofW (cc := cX7_would) (maxL := 6) (ret := (some .int)) (C := RX7) (by decide) rfl rfl (Nat.le_of_ble_eq_true rfl) ?_
  intro p e s m args below meth c Q ls A hx hb hml hts hown hP hD hS hA hB hl fi fv
  have hl : lv_has ls 6 [(0, .ref q_m), (1, .int x1), (2, .int x2)] := hl
  have t_0 := hts (.fieldLink RX7 1 "ParcelSplitModel" "thrown" "I") (by decide +kernel)
  have t_1 := hts (.fieldLink RX7 74 "ParcelSplitModel" "now" "[I") (by decide +kernel)
  have i_X7 : ∀ w ∈ wsX70, w ∈ wsX7_would := by decide +kernel
  have T65 : ∀ (v5 : Int32) (w_mN : Nat → Int32) (w_mC : Nat → Int32) (w_mH : Nat → Int32) (w_mW : Nat → Int32) (w_mB : Nat → Int32) (w_mX : Nat → Int32) (w_mE : Int32), k_X7_would_L65  v5 w_mN w_mC w_mH w_mW w_mB w_mX w_mE → f_X7_would x1 x2 mN mC mH mW mB mX mE = f_X7_would_L65  v5 w_mN w_mC w_mH w_mW w_mB w_mX w_mE → ∀ (H : Heap) (locs : List Loc), va_P (gD G) vwCl [oX7 q_m 0 q_mA mK mZ mO mF mQ mU mG mP mY q_mN q_mR q_mS mV mL q_mC q_mH q_mW q_mB q_mX w_mE, aI G q_mN 181 w_mN, aI G q_mC 256 w_mC, aI G q_mH 256 w_mH, aI G q_mW 8 w_mW, aI G q_mB 8 w_mB, aI G q_mX 8 w_mX] H → va_D A [oX7 q_m 0 q_mA mK mZ mO mF mQ mU mG mP mY q_mN q_mR q_mS mV mL q_mC q_mH q_mW q_mB q_mX w_mE, aI G q_mN 181 w_mN, aI G q_mC 256 w_mC, aI G q_mH 256 w_mH, aI G q_mW 8 w_mW, aI G q_mB 8 w_mB, aI G q_mX 8 w_mX] → va_S A s.heap H locs → ∀ (ls : Array Slot), lv_has ls 6 [(5, .int v5)] → W p l e (rm 22) s m args below meth c H locs 0 0 Q (F0 m 65 ls []) := by
    intro v5 w_mN w_mC w_mH w_mW w_mB w_mX w_mE hk hv H locs hP hD hS ls hl
    rw [k_X7_would_L65] at hk
    refine lv_iload hx hb dX7_would_65 (lv_at hl 0 rfl) ?_
    have e9 : f_X7_would x1 x2 mN mC mH mW mB mX mE = (v5, w_mN, w_mC, w_mH, w_mW, w_mB, w_mX, 0, w_mE) := by rw [hv, f_X7_would_L65]
    exact fi 67 _ v5 .int _ _ rfl rfl dX7_would_67 (by simp only [e9]) (by rw [e9]; exact hP) (by rw [e9]; exact hD) hS
  rw [k_X7_would] at hk
  refine lv_aload_n hx hb dX7_would_0 rfl (lv_at hl 0 rfl) ?_
  refine lv_iconst (v := 0) hx hb dX7_would_1 (by decide) ?_
  refine va_put (D := gD G) (ci := 7) (v := .int 0) (ty := .int) (C := RX7) (T := TX7) (N := 22) hx hb hts i_X7 tyX7 tyX7_ok nmX7 hown hB.1 hP hD hS 0 rfl rfl 0 (by decide) t_0 (fun _ h9 => h9) rfl (by decide +kernel) rfl rfl (Nat.le_of_ble_eq_true rfl) dX7_would_2 (fun H locs hP hD hS => ?_)
  have hP : va_P (gD G) vwCl [oX7 q_m 0 q_mA mK mZ mO mF mQ mU mG mP mY q_mN q_mR q_mS mV mL q_mC q_mH q_mW q_mB q_mX mE, aI G q_mN 181 mN, aI G q_mC 256 mC, aI G q_mH 256 mH, aI G q_mW 8 mW, aI G q_mB 8 mB, aI G q_mX 8 mX] H := hP
  have hD : va_D A [oX7 q_m 0 q_mA mK mZ mO mF mQ mU mG mP mY q_mN q_mR q_mS mV mL q_mC q_mH q_mW q_mB q_mX mE, aI G q_mN 181 mN, aI G q_mC 256 mC, aI G q_mH 256 mH, aI G q_mW 8 mW, aI G q_mB 8 mB, aI G q_mX 8 mX] := hD
  refine lv_iload_n hx hb dX7_would_5 rfl (lv_at hl 1 rfl) ?_
  refine lv_iload_n hx hb dX7_would_6 rfl (lv_at hl 2 rfl) ?_
  refine ro_S (As := [.int x1, .int x2]) (rest := []) (c_X7_isOrder l G x1 x2) [] rfl gX7_would_X7_isOrder ⟨_, rfl⟩ hd_X7_isOrder dX7_would_7 rfl rfl (Nat.le_of_ble_eq_true rfl) ⟨Nat.le_of_ble_eq_true rfl, Nat.le_of_ble_eq_true rfl⟩ ⟨Nat.le_refl 0, Nat.le_refl 0⟩ hx hb hml hown hts hB hS hP hl.1 ?_
  refine W.eq (g2 := F0 m 10 ls [.int (f_X7_isOrder x1 x2)]) rfl ?_
  refine lv_if_ne (tgt := 15) hx hb dX7_would_10 (by decide) (fun c_1 => ?_) (fun c_1 => ?_)
  · rw [if_neg c_1] at hk
    refine lv_aload_n hx hb dX7_would_15 rfl (lv_at hl 0 rfl) ?_
    refine va_get (D := gD G) (ci := 7) (v := .ref q_mN) (C := RX7) (T := TX7) (N := 22) hx hb hts i_X7 hown hB.1 hP 0 rfl rfl 11 (by decide) t_1 (fun _ h9 => h9) rfl dX7_would_16 ?_
    refine lv_iconst (v := 2) hx hb dX7_would_19 (by decide) ?_
    refine va_iald hx hb hB.1 hP 1 1 rfl rfl (by unfold vp_in; decide) dX7_would_20 ?_
    refine lv_istore_n (lv' := [(3, .int (mN (Int32.toNatClampNeg 2))), (0, .ref q_m), (1, .int x1), (2, .int x2)]) hx hb dX7_would_21 rfl hl (by decide) rfl (fun ls hl => ?_)
    refine lv_aload_n hx hb dX7_would_22 rfl (lv_at hl 1 rfl) ?_
    refine va_get (D := gD G) (ci := 7) (v := .ref q_mN) (C := RX7) (T := TX7) (N := 22) hx hb hts i_X7 hown hB.1 hP 0 rfl rfl 11 (by decide) t_1 (fun _ h9 => h9) rfl dX7_would_23 ?_
    refine lv_iconst (v := 3) hx hb dX7_would_26 (by decide) ?_
    refine va_iald hx hb hB.1 hP 1 1 rfl rfl (by unfold vp_in; decide) dX7_would_27 ?_
    refine lv_istore (lv' := [(4, .int (mN (Int32.toNatClampNeg 3))), (3, .int (mN (Int32.toNatClampNeg 2))), (0, .ref q_m), (1, .int x1), (2, .int x2)]) hx hb dX7_would_28 hl (by decide) rfl (fun ls hl => ?_)
    refine lv_aload_n hx hb dX7_would_30 rfl (lv_at hl 2 rfl) ?_
    refine va_get (D := gD G) (ci := 7) (v := .ref q_mN) (C := RX7) (T := TX7) (N := 22) hx hb hts i_X7 hown hB.1 hP 0 rfl rfl 11 (by decide) t_1 (fun _ h9 => h9) rfl dX7_would_31 ?_
    refine lv_iconst (v := 2) hx hb dX7_would_34 (by decide) ?_
    refine lv_iload_n hx hb dX7_would_35 rfl (lv_at hl 3 rfl) ?_
    refine va_iast hx hb hB.1 hP hD hS 1 1 rfl rfl (by unfold vp_in; decide) dX7_would_36 (fun H locs hP hD hS => ?_)
    have hP : va_P (gD G) vwCl [oX7 q_m 0 q_mA mK mZ mO mF mQ mU mG mP mY q_mN q_mR q_mS mV mL q_mC q_mH q_mW q_mB q_mX mE, aI G q_mN 181 (upd mN (Int32.toNatClampNeg 2) x1), aI G q_mC 256 mC, aI G q_mH 256 mH, aI G q_mW 8 mW, aI G q_mB 8 mB, aI G q_mX 8 mX] H := hP
    have hD : va_D A [oX7 q_m 0 q_mA mK mZ mO mF mQ mU mG mP mY q_mN q_mR q_mS mV mL q_mC q_mH q_mW q_mB q_mX mE, aI G q_mN 181 (upd mN (Int32.toNatClampNeg 2) x1), aI G q_mC 256 mC, aI G q_mH 256 mH, aI G q_mW 8 mW, aI G q_mB 8 mB, aI G q_mX 8 mX] := hD
    refine lv_aload_n hx hb dX7_would_37 rfl (lv_at hl 2 rfl) ?_
    refine va_get (D := gD G) (ci := 7) (v := .ref q_mN) (C := RX7) (T := TX7) (N := 22) hx hb hts i_X7 hown hB.1 hP 0 rfl rfl 11 (by decide) t_1 (fun _ h9 => h9) rfl dX7_would_38 ?_
    refine lv_iconst (v := 3) hx hb dX7_would_41 (by decide) ?_
    refine lv_iload_n hx hb dX7_would_42 rfl (lv_at hl 4 rfl) ?_
    refine va_iast hx hb hB.1 hP hD hS 1 1 rfl rfl (by unfold vp_in; decide) dX7_would_43 (fun H locs hP hD hS => ?_)
    have hP : va_P (gD G) vwCl [oX7 q_m 0 q_mA mK mZ mO mF mQ mU mG mP mY q_mN q_mR q_mS mV mL q_mC q_mH q_mW q_mB q_mX mE, aI G q_mN 181 (upd (upd mN (Int32.toNatClampNeg 2) x1) (Int32.toNatClampNeg 3) x2), aI G q_mC 256 mC, aI G q_mH 256 mH, aI G q_mW 8 mW, aI G q_mB 8 mB, aI G q_mX 8 mX] H := hP
    have hD : va_D A [oX7 q_m 0 q_mA mK mZ mO mF mQ mU mG mP mY q_mN q_mR q_mS mV mL q_mC q_mH q_mW q_mB q_mX mE, aI G q_mN 181 (upd (upd mN (Int32.toNatClampNeg 2) x1) (Int32.toNatClampNeg 3) x2), aI G q_mC 256 mC, aI G q_mH 256 mH, aI G q_mW 8 mW, aI G q_mB 8 mB, aI G q_mX 8 mX] := hD
    refine lv_aload_n hx hb dX7_would_44 rfl (lv_at hl 2 rfl) ?_
    obtain ⟨o_2, hk⟩ := hk
    refine wr_V (ci := 7) (q0 := 0) (As := []) (rest := []) (wr := []) (wf := [oX7 q_m 0 q_mA mK mZ mO mF mQ mU mG mP mY q_mN q_mR q_mS mV mL q_mC q_mH q_mW q_mB q_mX ((f_X7_splits (upd (upd mN (Int32.toNatClampNeg 2) x1) (Int32.toNatClampNeg 3) x2) mC mH mW mB mX).2.2.2.2.2.2), aI G q_mN 181 (upd (upd mN (Int32.toNatClampNeg 2) x1) (Int32.toNatClampNeg 3) x2), aI G q_mC 256 ((f_X7_splits (upd (upd mN (Int32.toNatClampNeg 2) x1) (Int32.toNatClampNeg 3) x2) mC mH mW mB mX).2.1), aI G q_mH 256 ((f_X7_splits (upd (upd mN (Int32.toNatClampNeg 2) x1) (Int32.toNatClampNeg 3) x2) mC mH mW mB mX).2.2.1), aI G q_mW 8 ((f_X7_splits (upd (upd mN (Int32.toNatClampNeg 2) x1) (Int32.toNatClampNeg 3) x2) mC mH mW mB mX).2.2.2.1), aI G q_mB 8 ((f_X7_splits (upd (upd mN (Int32.toNatClampNeg 2) x1) (Int32.toNatClampNeg 3) x2) mC mH mW mB mX).2.2.2.2.1), aI G q_mX 8 ((f_X7_splits (upd (upd mN (Int32.toNatClampNeg 2) x1) (Int32.toNatClampNeg 3) x2) mC mH mW mB mX).2.2.2.2.2.1)]) (c_X7_splits l G q_m q_mA q_mN q_mR q_mS q_mC q_mH q_mW q_mB q_mX 0 mK mZ mO mF mQ mU mG mP mY mV mL mE (upd (upd mN (Int32.toNatClampNeg 2) x1) (Int32.toNatClampNeg 3) x2) mC mH mW mB mX o_2) [0, 1, 2, 3, 4, 5, 6] [] [0, 1, 2, 3, 4, 5, 6] rfl rfl rfl (by decide) rfl rfl rfl gX7_would_X7_splits ⟨_, rfl⟩ hd_X7_splits rfl dX7_would_45 rfl rfl (Nat.le_of_ble_eq_true rfl) ⟨Nat.le_of_ble_eq_true rfl, Nat.le_of_ble_eq_true rfl⟩ ⟨Nat.le_refl 0, Nat.le_refl 0⟩ hx hb hml hown hts hB hD hS hA hP hl.1 (fun H locs hP hD hS => ?_)
    refine W.eq (g2 := F0 m 48 ls [.int ((f_X7_splits (upd (upd mN (Int32.toNatClampNeg 2) x1) (Int32.toNatClampNeg 3) x2) mC mH mW mB mX).1)]) rfl ?_
    refine lv_istore (lv' := [(5, .int ((f_X7_splits (upd (upd mN (Int32.toNatClampNeg 2) x1) (Int32.toNatClampNeg 3) x2) mC mH mW mB mX).1)), (4, .int (mN (Int32.toNatClampNeg 3))), (3, .int (mN (Int32.toNatClampNeg 2))), (0, .ref q_m), (1, .int x1), (2, .int x2)]) hx hb dX7_would_48 hl (by decide) rfl (fun ls hl => ?_)
    refine lv_aload_n hx hb dX7_would_50 rfl (lv_at hl 3 rfl) ?_
    refine va_get (D := gD G) (ci := 7) (v := .ref q_mN) (C := RX7) (T := TX7) (N := 22) hx hb hts i_X7 hown hB.1 hP 0 rfl rfl 11 (by decide) t_1 (fun _ h9 => h9) rfl dX7_would_51 ?_
    refine lv_iconst (v := 2) hx hb dX7_would_54 (by decide) ?_
    refine lv_iload_n hx hb dX7_would_55 rfl (lv_at hl 2 rfl) ?_
    refine va_iast hx hb hB.1 hP hD hS 1 1 rfl rfl (by unfold vp_in; decide) dX7_would_56 (fun H locs hP hD hS => ?_)
    have hP : va_P (gD G) vwCl [oX7 q_m 0 q_mA mK mZ mO mF mQ mU mG mP mY q_mN q_mR q_mS mV mL q_mC q_mH q_mW q_mB q_mX ((f_X7_splits (upd (upd mN (Int32.toNatClampNeg 2) x1) (Int32.toNatClampNeg 3) x2) mC mH mW mB mX).2.2.2.2.2.2), aI G q_mN 181 (upd (upd (upd mN (Int32.toNatClampNeg 2) x1) (Int32.toNatClampNeg 3) x2) (Int32.toNatClampNeg 2) (mN (Int32.toNatClampNeg 2))), aI G q_mC 256 ((f_X7_splits (upd (upd mN (Int32.toNatClampNeg 2) x1) (Int32.toNatClampNeg 3) x2) mC mH mW mB mX).2.1), aI G q_mH 256 ((f_X7_splits (upd (upd mN (Int32.toNatClampNeg 2) x1) (Int32.toNatClampNeg 3) x2) mC mH mW mB mX).2.2.1), aI G q_mW 8 ((f_X7_splits (upd (upd mN (Int32.toNatClampNeg 2) x1) (Int32.toNatClampNeg 3) x2) mC mH mW mB mX).2.2.2.1), aI G q_mB 8 ((f_X7_splits (upd (upd mN (Int32.toNatClampNeg 2) x1) (Int32.toNatClampNeg 3) x2) mC mH mW mB mX).2.2.2.2.1), aI G q_mX 8 ((f_X7_splits (upd (upd mN (Int32.toNatClampNeg 2) x1) (Int32.toNatClampNeg 3) x2) mC mH mW mB mX).2.2.2.2.2.1)] H := hP
    have hD : va_D A [oX7 q_m 0 q_mA mK mZ mO mF mQ mU mG mP mY q_mN q_mR q_mS mV mL q_mC q_mH q_mW q_mB q_mX ((f_X7_splits (upd (upd mN (Int32.toNatClampNeg 2) x1) (Int32.toNatClampNeg 3) x2) mC mH mW mB mX).2.2.2.2.2.2), aI G q_mN 181 (upd (upd (upd mN (Int32.toNatClampNeg 2) x1) (Int32.toNatClampNeg 3) x2) (Int32.toNatClampNeg 2) (mN (Int32.toNatClampNeg 2))), aI G q_mC 256 ((f_X7_splits (upd (upd mN (Int32.toNatClampNeg 2) x1) (Int32.toNatClampNeg 3) x2) mC mH mW mB mX).2.1), aI G q_mH 256 ((f_X7_splits (upd (upd mN (Int32.toNatClampNeg 2) x1) (Int32.toNatClampNeg 3) x2) mC mH mW mB mX).2.2.1), aI G q_mW 8 ((f_X7_splits (upd (upd mN (Int32.toNatClampNeg 2) x1) (Int32.toNatClampNeg 3) x2) mC mH mW mB mX).2.2.2.1), aI G q_mB 8 ((f_X7_splits (upd (upd mN (Int32.toNatClampNeg 2) x1) (Int32.toNatClampNeg 3) x2) mC mH mW mB mX).2.2.2.2.1), aI G q_mX 8 ((f_X7_splits (upd (upd mN (Int32.toNatClampNeg 2) x1) (Int32.toNatClampNeg 3) x2) mC mH mW mB mX).2.2.2.2.2.1)] := hD
    refine lv_aload_n hx hb dX7_would_57 rfl (lv_at hl 3 rfl) ?_
    refine va_get (D := gD G) (ci := 7) (v := .ref q_mN) (C := RX7) (T := TX7) (N := 22) hx hb hts i_X7 hown hB.1 hP 0 rfl rfl 11 (by decide) t_1 (fun _ h9 => h9) rfl dX7_would_58 ?_
    refine lv_iconst (v := 3) hx hb dX7_would_61 (by decide) ?_
    refine lv_iload hx hb dX7_would_62 (lv_at hl 1 rfl) ?_
    refine va_iast hx hb hB.1 hP hD hS 1 1 rfl rfl (by unfold vp_in; decide) dX7_would_64 (fun H locs hP hD hS => ?_)
    have hP : va_P (gD G) vwCl [oX7 q_m 0 q_mA mK mZ mO mF mQ mU mG mP mY q_mN q_mR q_mS mV mL q_mC q_mH q_mW q_mB q_mX ((f_X7_splits (upd (upd mN (Int32.toNatClampNeg 2) x1) (Int32.toNatClampNeg 3) x2) mC mH mW mB mX).2.2.2.2.2.2), aI G q_mN 181 (upd (upd (upd (upd mN (Int32.toNatClampNeg 2) x1) (Int32.toNatClampNeg 3) x2) (Int32.toNatClampNeg 2) (mN (Int32.toNatClampNeg 2))) (Int32.toNatClampNeg 3) (mN (Int32.toNatClampNeg 3))), aI G q_mC 256 ((f_X7_splits (upd (upd mN (Int32.toNatClampNeg 2) x1) (Int32.toNatClampNeg 3) x2) mC mH mW mB mX).2.1), aI G q_mH 256 ((f_X7_splits (upd (upd mN (Int32.toNatClampNeg 2) x1) (Int32.toNatClampNeg 3) x2) mC mH mW mB mX).2.2.1), aI G q_mW 8 ((f_X7_splits (upd (upd mN (Int32.toNatClampNeg 2) x1) (Int32.toNatClampNeg 3) x2) mC mH mW mB mX).2.2.2.1), aI G q_mB 8 ((f_X7_splits (upd (upd mN (Int32.toNatClampNeg 2) x1) (Int32.toNatClampNeg 3) x2) mC mH mW mB mX).2.2.2.2.1), aI G q_mX 8 ((f_X7_splits (upd (upd mN (Int32.toNatClampNeg 2) x1) (Int32.toNatClampNeg 3) x2) mC mH mW mB mX).2.2.2.2.2.1)] H := hP
    have hD : va_D A [oX7 q_m 0 q_mA mK mZ mO mF mQ mU mG mP mY q_mN q_mR q_mS mV mL q_mC q_mH q_mW q_mB q_mX ((f_X7_splits (upd (upd mN (Int32.toNatClampNeg 2) x1) (Int32.toNatClampNeg 3) x2) mC mH mW mB mX).2.2.2.2.2.2), aI G q_mN 181 (upd (upd (upd (upd mN (Int32.toNatClampNeg 2) x1) (Int32.toNatClampNeg 3) x2) (Int32.toNatClampNeg 2) (mN (Int32.toNatClampNeg 2))) (Int32.toNatClampNeg 3) (mN (Int32.toNatClampNeg 3))), aI G q_mC 256 ((f_X7_splits (upd (upd mN (Int32.toNatClampNeg 2) x1) (Int32.toNatClampNeg 3) x2) mC mH mW mB mX).2.1), aI G q_mH 256 ((f_X7_splits (upd (upd mN (Int32.toNatClampNeg 2) x1) (Int32.toNatClampNeg 3) x2) mC mH mW mB mX).2.2.1), aI G q_mW 8 ((f_X7_splits (upd (upd mN (Int32.toNatClampNeg 2) x1) (Int32.toNatClampNeg 3) x2) mC mH mW mB mX).2.2.2.1), aI G q_mB 8 ((f_X7_splits (upd (upd mN (Int32.toNatClampNeg 2) x1) (Int32.toNatClampNeg 3) x2) mC mH mW mB mX).2.2.2.2.1), aI G q_mX 8 ((f_X7_splits (upd (upd mN (Int32.toNatClampNeg 2) x1) (Int32.toNatClampNeg 3) x2) mC mH mW mB mX).2.2.2.2.2.1)] := hD
    exact T65 ((f_X7_splits (upd (upd mN (Int32.toNatClampNeg 2) x1) (Int32.toNatClampNeg 3) x2) mC mH mW mB mX).1) (upd (upd (upd (upd mN (Int32.toNatClampNeg 2) x1) (Int32.toNatClampNeg 3) x2) (Int32.toNatClampNeg 2) (mN (Int32.toNatClampNeg 2))) (Int32.toNatClampNeg 3) (mN (Int32.toNatClampNeg 3))) ((f_X7_splits (upd (upd mN (Int32.toNatClampNeg 2) x1) (Int32.toNatClampNeg 3) x2) mC mH mW mB mX).2.1) ((f_X7_splits (upd (upd mN (Int32.toNatClampNeg 2) x1) (Int32.toNatClampNeg 3) x2) mC mH mW mB mX).2.2.1) ((f_X7_splits (upd (upd mN (Int32.toNatClampNeg 2) x1) (Int32.toNatClampNeg 3) x2) mC mH mW mB mX).2.2.2.1) ((f_X7_splits (upd (upd mN (Int32.toNatClampNeg 2) x1) (Int32.toNatClampNeg 3) x2) mC mH mW mB mX).2.2.2.2.1) ((f_X7_splits (upd (upd mN (Int32.toNatClampNeg 2) x1) (Int32.toNatClampNeg 3) x2) mC mH mW mB mX).2.2.2.2.2.1) ((f_X7_splits (upd (upd mN (Int32.toNatClampNeg 2) x1) (Int32.toNatClampNeg 3) x2) mC mH mW mB mX).2.2.2.2.2.2) hk (by rw [f_X7_would, if_neg c_1]) _ _ hP hD hS ls (lv_sub hl [0] rfl)
  · rw [if_pos c_1] at hk
    refine lv_iconst (v := (-1)) hx hb dX7_would_13 (by decide) ?_
    have e9 : f_X7_would x1 x2 mN mC mH mW mB mX mE = ((-1), mN, mC, mH, mW, mB, mX, 0, mE) := by rw [f_X7_would, if_pos c_1]
    exact fi 14 _ (-1) .int _ _ rfl rfl dX7_would_14 (by simp only [e9]) (by rw [e9]; exact hP) (by rw [e9]; exact hD) hS

noncomputable def f_X7_take_L23 : Nat → Int32 → (Nat → Int32) → Int32 × (Nat → Int32)
  | 0, v1, w_mN => (v1, w_mN)
  | n + 1, v1, w_mN => (if 16 ≤ v1 then (v1, w_mN) else f_X7_take_L23  n (v1 + 1) (upd w_mN (Int32.toNatClampNeg (165 + v1)) 0))
noncomputable def k_X7_take_L23 : Nat → Int32 → (Nat → Int32) → Prop
  | 0, _, _ => False
  | n + 1, v1, w_mN => (if 16 ≤ v1 then True else (vp_in (165 + v1) 181 ∧ k_X7_take_L23  n (v1 + 1) (upd w_mN (Int32.toNatClampNeg (165 + v1)) 0)))
noncomputable def f_X7_take_L50 (mN : Nat → Int32) (mC : Nat → Int32) (mH : Nat → Int32) (mW : Nat → Int32) (mB : Nat → Int32) (mX : Nat → Int32) : Nat → Int32 → Int32 → (Nat → Int32) → Int32 × Int32 × (Nat → Int32)
  | 0, v1, v2, w_mN => (v1, v2, w_mN)
  | n + 1, v1, v2, w_mN => (if (w_mN (Int32.toNatClampNeg 1)) ≤ v2 then (v1, v2, w_mN) else (if ((((f_X7_splits mN mC mH mW mB mX).2.2.2.2.1) (Int32.toNatClampNeg v2)) / 3) = v1 then f_X7_take_L50 mN mC mH mW mB mX n (v1 + 1) (v2 + 1) (upd (upd w_mN (Int32.toNatClampNeg ((133 + (4 * v2)) + 3)) (((((f_X7_splits mN mC mH mW mB mX).2.2.2.2.1) (Int32.toNatClampNeg v2)) / 3) + 1)) (Int32.toNatClampNeg ((165 + (2 * ((((f_X7_splits mN mC mH mW mB mX).2.2.2.2.1) (Int32.toNatClampNeg v2)) / 3))) + 0)) (jrem (((f_X7_splits mN mC mH mW mB mX).2.2.2.2.1) (Int32.toNatClampNeg v2)) 3)) else f_X7_take_L50 mN mC mH mW mB mX n v1 (v2 + 1) (upd (upd w_mN (Int32.toNatClampNeg ((133 + (4 * v2)) + 3)) (((((f_X7_splits mN mC mH mW mB mX).2.2.2.2.1) (Int32.toNatClampNeg v2)) / 3) + 1)) (Int32.toNatClampNeg ((165 + (2 * ((((f_X7_splits mN mC mH mW mB mX).2.2.2.2.1) (Int32.toNatClampNeg v2)) / 3))) + 0)) (jrem (((f_X7_splits mN mC mH mW mB mX).2.2.2.2.1) (Int32.toNatClampNeg v2)) 3))))
noncomputable def k_X7_take_L50 (mN : Nat → Int32) (mC : Nat → Int32) (mH : Nat → Int32) (mW : Nat → Int32) (mB : Nat → Int32) (mX : Nat → Int32) : Nat → Int32 → Int32 → (Nat → Int32) → Prop
  | 0, _, _, _ => False
  | n + 1, v1, v2, w_mN => (if (w_mN (Int32.toNatClampNeg 1)) ≤ v2 then True else (vp_in v2 8 ∧ (vp_in ((133 + (4 * v2)) + 3) 181 ∧ (vp_in v2 8 ∧ (vp_in ((165 + (2 * ((((f_X7_splits mN mC mH mW mB mX).2.2.2.2.1) (Int32.toNatClampNeg v2)) / 3))) + 0) 181 ∧ (if ((((f_X7_splits mN mC mH mW mB mX).2.2.2.2.1) (Int32.toNatClampNeg v2)) / 3) = v1 then k_X7_take_L50 mN mC mH mW mB mX n (v1 + 1) (v2 + 1) (upd (upd w_mN (Int32.toNatClampNeg ((133 + (4 * v2)) + 3)) (((((f_X7_splits mN mC mH mW mB mX).2.2.2.2.1) (Int32.toNatClampNeg v2)) / 3) + 1)) (Int32.toNatClampNeg ((165 + (2 * ((((f_X7_splits mN mC mH mW mB mX).2.2.2.2.1) (Int32.toNatClampNeg v2)) / 3))) + 0)) (jrem (((f_X7_splits mN mC mH mW mB mX).2.2.2.2.1) (Int32.toNatClampNeg v2)) 3)) else k_X7_take_L50 mN mC mH mW mB mX n v1 (v2 + 1) (upd (upd w_mN (Int32.toNatClampNeg ((133 + (4 * v2)) + 3)) (((((f_X7_splits mN mC mH mW mB mX).2.2.2.2.1) (Int32.toNatClampNeg v2)) / 3) + 1)) (Int32.toNatClampNeg ((165 + (2 * ((((f_X7_splits mN mC mH mW mB mX).2.2.2.2.1) (Int32.toNatClampNeg v2)) / 3))) + 0)) (jrem (((f_X7_splits mN mC mH mW mB mX).2.2.2.2.1) (Int32.toNatClampNeg v2)) 3))))))))
noncomputable def f_X7_take (mN : Nat → Int32) (mS : Nat → Int32) (mC : Nat → Int32) (mH : Nat → Int32) (mW : Nat → Int32) (mB : Nat → Int32) (mX : Nat → Int32) (mV : Int32) : Int32 × (Nat → Int32) × (Nat → Int32) × (Nat → Int32) × (Nat → Int32) × (Nat → Int32) × (Nat → Int32) × (Nat → Int32) × Int32 × Int32 × Int32 := (if ((f_X7_splits mN mC mH mW mB mX).1) = (-2) then ((-2), mN, mS, ((f_X7_splits mN mC mH mW mB mX).2.1), ((f_X7_splits mN mC mH mW mB mX).2.2.1), ((f_X7_splits mN mC mH mW mB mX).2.2.2.1), ((f_X7_splits mN mC mH mW mB mX).2.2.2.2.1), ((f_X7_splits mN mC mH mW mB mX).2.2.2.2.2.1), 0, mV, ((f_X7_splits mN mC mH mW mB mX).2.2.2.2.2.2)) else (((f_X7_take_L50 mN mC mH mW mB mX FU 0 0 ((f_X7_take_L23  FU 0 mN).2)).1), ((f_X7_take_L50 mN mC mH mW mB mX FU 0 0 ((f_X7_take_L23  FU 0 mN).2)).2.2), ((f_X7_snap mN mS mV).1), ((f_X7_splits mN mC mH mW mB mX).2.1), ((f_X7_splits mN mC mH mW mB mX).2.2.1), ((f_X7_splits mN mC mH mW mB mX).2.2.2.1), ((f_X7_splits mN mC mH mW mB mX).2.2.2.2.1), ((f_X7_splits mN mC mH mW mB mX).2.2.2.2.2.1), 0, ((f_X7_snap mN mS mV).2), ((f_X7_splits mN mC mH mW mB mX).2.2.2.2.2.2)))
noncomputable def k_X7_take (mN : Nat → Int32) (mS : Nat → Int32) (mC : Nat → Int32) (mH : Nat → Int32) (mW : Nat → Int32) (mB : Nat → Int32) (mX : Nat → Int32) (mV : Int32) : Prop := (k_X7_splits mN mC mH mW mB mX ∧ (if ((f_X7_splits mN mC mH mW mB mX).1) = (-2) then True else (k_X7_snap mN mS mV ∧ (k_X7_take_L23  FU 0 mN ∧ (k_X7_take_L50 mN mC mH mW mB mX FU 0 0 ((f_X7_take_L23  FU 0 mN).2) ∧ True)))))
theorem hd_X7_take : yX7_take.cls ≠ "java/lang/invoke/MethodHandle" ∧ yX7_take.cls ≠ "java/lang/invoke/VarHandle" ∧ (parseMethodDescriptor yX7_take.desc).map (fun d => d.parameters.length) = some 0 := by decide +kernel
set_option maxHeartbeats 4000000 in
set_option maxRecDepth 100000 in
theorem c_X7_take (l : Launch) (G : BGT) (q_m q_mA q_mN q_mR q_mS q_mC q_mH q_mW q_mB q_mX : Nat) (mT : Int32) (mK : Int32) (mZ : Int32) (mO : Int32) (mF : Int32) (mQ : Int32) (mU : Int32) (mG : Int32) (mP : Int32) (mY : Int64) (mV : Int32) (mL : Int32) (mE : Int32) (mN : Nat → Int32) (mS : Nat → Int32) (mC : Nat → Int32) (mH : Nat → Int32) (mW : Nat → Int32) (mB : Nat → Int32) (mX : Nat → Int32) (hk : k_X7_take mN mS mC mH mW mB mX mV) : WR l yX7_take wsX7_take 22 G [oX7 q_m mT q_mA mK mZ mO mF mQ mU mG mP mY q_mN q_mR q_mS mV mL q_mC q_mH q_mW q_mB q_mX mE, aI G q_mN 181 mN, aI G q_mS 1810 mS, aI G q_mC 256 mC, aI G q_mH 256 mH, aI G q_mW 8 mW, aI G q_mB 8 mB, aI G q_mX 8 mX] [oX7 q_m ((f_X7_take mN mS mC mH mW mB mX mV).2.2.2.2.2.2.2.2.1) q_mA mK mZ mO mF mQ mU mG mP mY q_mN q_mR q_mS ((f_X7_take mN mS mC mH mW mB mX mV).2.2.2.2.2.2.2.2.2.1) mL q_mC q_mH q_mW q_mB q_mX ((f_X7_take mN mS mC mH mW mB mX mV).2.2.2.2.2.2.2.2.2.2), aI G q_mN 181 ((f_X7_take mN mS mC mH mW mB mX mV).2.1), aI G q_mS 1810 ((f_X7_take mN mS mC mH mW mB mX mV).2.2.1), aI G q_mC 256 ((f_X7_take mN mS mC mH mW mB mX mV).2.2.2.1), aI G q_mH 256 ((f_X7_take mN mS mC mH mW mB mX mV).2.2.2.2.1), aI G q_mW 8 ((f_X7_take mN mS mC mH mW mB mX mV).2.2.2.2.2.1), aI G q_mB 8 ((f_X7_take mN mS mC mH mW mB mX mV).2.2.2.2.2.2.1), aI G q_mX 8 ((f_X7_take mN mS mC mH mW mB mX mV).2.2.2.2.2.2.2.1)] [.ref q_m] (some (.int ((f_X7_take mN mS mC mH mW mB mX mV).1))) := by
  refine WR.ofW (cc := cX7_take) (maxL := 4) (ret := (some .int)) (C := RX7) (by decide) rfl rfl (Nat.le_of_ble_eq_true rfl) ?_
  intro p e s m args below meth c Q ls A hx hb hml hts hown hP hD hS hA hB hl fi fv
  have hl : lv_has ls 4 [(0, .ref q_m)] := hl
  have t_0 := hts (.fieldLink RX7 1 "ParcelSplitModel" "thrown" "I") (by decide +kernel)
  have t_1 := hts (.fieldLink RX7 74 "ParcelSplitModel" "now" "[I") (by decide +kernel)
  have t_2 := hts (.fieldLink RX7 92 "ParcelSplitModel" "best" "[I") (by decide +kernel)
  have i_X7 : ∀ w ∈ wsX70, w ∈ wsX7_take := by decide +kernel
  rw [k_X7_take] at hk
  refine lv_aload_n hx hb dX7_take_0 rfl (lv_at hl 0 rfl) ?_
  refine lv_iconst (v := 0) hx hb dX7_take_1 (by decide) ?_
  refine va_put (D := gD G) (ci := 7) (v := .int 0) (ty := .int) (C := RX7) (T := TX7) (N := 22) hx hb hts i_X7 tyX7 tyX7_ok nmX7 hown hB.1 hP hD hS 0 rfl rfl 0 (by decide) t_0 (fun _ h9 => h9) rfl (by decide +kernel) rfl rfl (Nat.le_of_ble_eq_true rfl) dX7_take_2 (fun H locs hP hD hS => ?_)
  have hP : va_P (gD G) vwCl [oX7 q_m 0 q_mA mK mZ mO mF mQ mU mG mP mY q_mN q_mR q_mS mV mL q_mC q_mH q_mW q_mB q_mX mE, aI G q_mN 181 mN, aI G q_mS 1810 mS, aI G q_mC 256 mC, aI G q_mH 256 mH, aI G q_mW 8 mW, aI G q_mB 8 mB, aI G q_mX 8 mX] H := hP
  have hD : va_D A [oX7 q_m 0 q_mA mK mZ mO mF mQ mU mG mP mY q_mN q_mR q_mS mV mL q_mC q_mH q_mW q_mB q_mX mE, aI G q_mN 181 mN, aI G q_mS 1810 mS, aI G q_mC 256 mC, aI G q_mH 256 mH, aI G q_mW 8 mW, aI G q_mB 8 mB, aI G q_mX 8 mX] := hD
  refine lv_aload_n hx hb dX7_take_5 rfl (lv_at hl 0 rfl) ?_
  obtain ⟨o_1, hk⟩ := hk
  refine wr_V (ci := 7) (q0 := 0) (As := []) (rest := []) (wr := [aI G q_mS 1810 mS]) (wf := [oX7 q_m 0 q_mA mK mZ mO mF mQ mU mG mP mY q_mN q_mR q_mS mV mL q_mC q_mH q_mW q_mB q_mX ((f_X7_splits mN mC mH mW mB mX).2.2.2.2.2.2), aI G q_mN 181 mN, aI G q_mS 1810 mS, aI G q_mC 256 ((f_X7_splits mN mC mH mW mB mX).2.1), aI G q_mH 256 ((f_X7_splits mN mC mH mW mB mX).2.2.1), aI G q_mW 8 ((f_X7_splits mN mC mH mW mB mX).2.2.2.1), aI G q_mB 8 ((f_X7_splits mN mC mH mW mB mX).2.2.2.2.1), aI G q_mX 8 ((f_X7_splits mN mC mH mW mB mX).2.2.2.2.2.1)]) (c_X7_splits l G q_m q_mA q_mN q_mR q_mS q_mC q_mH q_mW q_mB q_mX 0 mK mZ mO mF mQ mU mG mP mY mV mL mE mN mC mH mW mB mX o_1) [0, 1, 3, 4, 5, 6, 7] [2] [1, 2, 0, 3, 4, 5, 6, 7] rfl rfl rfl (by decide) rfl rfl rfl gX7_take_X7_splits ⟨_, rfl⟩ hd_X7_splits rfl dX7_take_6 rfl rfl (Nat.le_of_ble_eq_true rfl) ⟨Nat.le_of_ble_eq_true rfl, Nat.le_of_ble_eq_true rfl⟩ ⟨Nat.le_refl 0, Nat.le_refl 0⟩ hx hb hml hown hts hB hD hS hA hP hl.1 (fun H locs hP hD hS => ?_)
  refine W.eq (g2 := F0 m 9 ls [.int ((f_X7_splits mN mC mH mW mB mX).1)]) rfl ?_
  refine lv_bipush (v := (-2)) hx hb dX7_take_9 (by decide) ?_
  refine lv_icmp_ne (tgt := 17) hx hb dX7_take_11 (by decide) (fun c_2 => ?_) (fun c_2 => ?_)
  · rw [if_neg c_2] at hk
    refine lv_aload_n hx hb dX7_take_17 rfl (lv_at hl 0 rfl) ?_
    obtain ⟨o_3, hk⟩ := hk
    refine wr_V (ci := 7) (q0 := 0) (As := []) (rest := []) (wr := [aI G q_mC 256 ((f_X7_splits mN mC mH mW mB mX).2.1), aI G q_mH 256 ((f_X7_splits mN mC mH mW mB mX).2.2.1), aI G q_mW 8 ((f_X7_splits mN mC mH mW mB mX).2.2.2.1), aI G q_mB 8 ((f_X7_splits mN mC mH mW mB mX).2.2.2.2.1), aI G q_mX 8 ((f_X7_splits mN mC mH mW mB mX).2.2.2.2.2.1)]) (wf := [oX7 q_m 0 q_mA mK mZ mO mF mQ mU mG mP mY q_mN q_mR q_mS ((f_X7_snap mN mS mV).2) mL q_mC q_mH q_mW q_mB q_mX ((f_X7_splits mN mC mH mW mB mX).2.2.2.2.2.2), aI G q_mN 181 mN, aI G q_mS 1810 ((f_X7_snap mN mS mV).1), aI G q_mC 256 ((f_X7_splits mN mC mH mW mB mX).2.1), aI G q_mH 256 ((f_X7_splits mN mC mH mW mB mX).2.2.1), aI G q_mW 8 ((f_X7_splits mN mC mH mW mB mX).2.2.2.1), aI G q_mB 8 ((f_X7_splits mN mC mH mW mB mX).2.2.2.2.1), aI G q_mX 8 ((f_X7_splits mN mC mH mW mB mX).2.2.2.2.2.1)]) (c_X7_snap l G q_m q_mA q_mN q_mR q_mS q_mC q_mH q_mW q_mB q_mX 0 mK mZ mO mF mQ mU mG mP mY mV mL ((f_X7_splits mN mC mH mW mB mX).2.2.2.2.2.2) mN mS o_3) [0, 1, 2] [3, 4, 5, 6, 7] [5, 6, 7, 0, 1, 2, 3, 4] rfl rfl rfl (by decide) rfl rfl rfl gX7_take_X7_snap ⟨_, rfl⟩ hd_X7_snap rfl dX7_take_18 rfl rfl (Nat.le_of_ble_eq_true rfl) ⟨Nat.le_of_ble_eq_true rfl, Nat.le_of_ble_eq_true rfl⟩ ⟨Nat.le_refl 0, Nat.le_refl 0⟩ hx hb hml hown hts hB hD hS hA hP hl.1 (fun H locs hP hD hS => ?_)
    refine W.eq (g2 := F0 m 21 ls []) rfl ?_
    refine lv_iconst (v := 0) hx hb dX7_take_21 (by decide) ?_
    refine lv_istore_n (lv' := [(1, .int 0), (0, .ref q_m)]) hx hb dX7_take_22 rfl hl (by decide) rfl (fun ls hl => ?_)
    have L23 : ∀ (n : Nat) (v1 : Int32) (w_mN : Nat → Int32), k_X7_take_L23  n v1 w_mN → ∀ (H : Heap) (locs : List Loc), va_P (gD G) vwCl [oX7 q_m 0 q_mA mK mZ mO mF mQ mU mG mP mY q_mN q_mR q_mS ((f_X7_snap mN mS mV).2) mL q_mC q_mH q_mW q_mB q_mX ((f_X7_splits mN mC mH mW mB mX).2.2.2.2.2.2), aI G q_mN 181 w_mN, aI G q_mS 1810 ((f_X7_snap mN mS mV).1), aI G q_mC 256 ((f_X7_splits mN mC mH mW mB mX).2.1), aI G q_mH 256 ((f_X7_splits mN mC mH mW mB mX).2.2.1), aI G q_mW 8 ((f_X7_splits mN mC mH mW mB mX).2.2.2.1), aI G q_mB 8 ((f_X7_splits mN mC mH mW mB mX).2.2.2.2.1), aI G q_mX 8 ((f_X7_splits mN mC mH mW mB mX).2.2.2.2.2.1)] H → va_D A [oX7 q_m 0 q_mA mK mZ mO mF mQ mU mG mP mY q_mN q_mR q_mS ((f_X7_snap mN mS mV).2) mL q_mC q_mH q_mW q_mB q_mX ((f_X7_splits mN mC mH mW mB mX).2.2.2.2.2.2), aI G q_mN 181 w_mN, aI G q_mS 1810 ((f_X7_snap mN mS mV).1), aI G q_mC 256 ((f_X7_splits mN mC mH mW mB mX).2.1), aI G q_mH 256 ((f_X7_splits mN mC mH mW mB mX).2.2.1), aI G q_mW 8 ((f_X7_splits mN mC mH mW mB mX).2.2.2.1), aI G q_mB 8 ((f_X7_splits mN mC mH mW mB mX).2.2.2.2.1), aI G q_mX 8 ((f_X7_splits mN mC mH mW mB mX).2.2.2.2.2.1)] → va_S A s.heap H locs → ∀ (ls : Array Slot), lv_has ls 4 [(0, .ref q_m), (1, .int v1)] → (∀ (H : Heap) (locs : List Loc), va_P (gD G) vwCl [oX7 q_m 0 q_mA mK mZ mO mF mQ mU mG mP mY q_mN q_mR q_mS ((f_X7_snap mN mS mV).2) mL q_mC q_mH q_mW q_mB q_mX ((f_X7_splits mN mC mH mW mB mX).2.2.2.2.2.2), aI G q_mN 181 ((f_X7_take_L23  n v1 w_mN).2), aI G q_mS 1810 ((f_X7_snap mN mS mV).1), aI G q_mC 256 ((f_X7_splits mN mC mH mW mB mX).2.1), aI G q_mH 256 ((f_X7_splits mN mC mH mW mB mX).2.2.1), aI G q_mW 8 ((f_X7_splits mN mC mH mW mB mX).2.2.2.1), aI G q_mB 8 ((f_X7_splits mN mC mH mW mB mX).2.2.2.2.1), aI G q_mX 8 ((f_X7_splits mN mC mH mW mB mX).2.2.2.2.2.1)] H → va_D A [oX7 q_m 0 q_mA mK mZ mO mF mQ mU mG mP mY q_mN q_mR q_mS ((f_X7_snap mN mS mV).2) mL q_mC q_mH q_mW q_mB q_mX ((f_X7_splits mN mC mH mW mB mX).2.2.2.2.2.2), aI G q_mN 181 ((f_X7_take_L23  n v1 w_mN).2), aI G q_mS 1810 ((f_X7_snap mN mS mV).1), aI G q_mC 256 ((f_X7_splits mN mC mH mW mB mX).2.1), aI G q_mH 256 ((f_X7_splits mN mC mH mW mB mX).2.2.1), aI G q_mW 8 ((f_X7_splits mN mC mH mW mB mX).2.2.2.1), aI G q_mB 8 ((f_X7_splits mN mC mH mW mB mX).2.2.2.2.1), aI G q_mX 8 ((f_X7_splits mN mC mH mW mB mX).2.2.2.2.2.1)] → va_S A s.heap H locs → ∀ (ls : Array Slot), lv_has ls 4 [(0, .ref q_m), (1, .int ((f_X7_take_L23  n v1 w_mN).1))] → W p l e (rm 22) s m args below meth c H locs 0 0 Q (F0 m 46 ls [])) → W p l e (rm 22) s m args below meth c H locs 0 0 Q (F0 m 23 ls []) := by
      intro n
      induction n with
      | zero => intro v1 w_mN hk; exact (hk : False).elim
      | succ n ih =>
        intro v1 w_mN hk H locs hP hD hS ls hl kk
        rw [k_X7_take_L23] at hk
        refine lv_iload_n hx hb dX7_take_23 rfl (lv_at hl 1 rfl) ?_
        refine lv_bipush (v := 16) hx hb dX7_take_24 (by decide) ?_
        refine lv_icmp_ge (tgt := 46) hx hb dX7_take_26 (by decide) (fun c_4 => ?_) (fun c_4 => ?_)
        · rw [if_pos c_4] at hk
          have e9 : f_X7_take_L23  (n + 1) v1 w_mN = (v1, w_mN) := by rw [f_X7_take_L23, if_pos c_4]
          rw [e9] at kk
          exact kk _ _ hP hD hS ls (lv_sub hl [0, 1] rfl)
        · rw [if_neg c_4] at hk
          refine lv_aload_n hx hb dX7_take_29 rfl (lv_at hl 0 rfl) ?_
          refine va_get (D := gD G) (ci := 7) (v := .ref q_mN) (C := RX7) (T := TX7) (N := 22) hx hb hts i_X7 hown hB.1 hP 0 rfl rfl 11 (by decide) t_1 (fun _ h9 => h9) rfl dX7_take_30 ?_
          refine lv_sipush (v := 165) hx hb dX7_take_33 (by decide) ?_
          refine lv_iload_n hx hb dX7_take_36 rfl (lv_at hl 1 rfl) ?_
          refine lv_iadd hx hb dX7_take_37 ?_
          refine lv_iconst (v := 0) hx hb dX7_take_38 (by decide) ?_
          obtain ⟨o_5, hk⟩ := hk
          refine va_iast hx hb hB.1 hP hD hS 1 1 rfl rfl o_5 dX7_take_39 (fun H locs hP hD hS => ?_)
          have hP : va_P (gD G) vwCl [oX7 q_m 0 q_mA mK mZ mO mF mQ mU mG mP mY q_mN q_mR q_mS ((f_X7_snap mN mS mV).2) mL q_mC q_mH q_mW q_mB q_mX ((f_X7_splits mN mC mH mW mB mX).2.2.2.2.2.2), aI G q_mN 181 (upd w_mN (Int32.toNatClampNeg (165 + v1)) 0), aI G q_mS 1810 ((f_X7_snap mN mS mV).1), aI G q_mC 256 ((f_X7_splits mN mC mH mW mB mX).2.1), aI G q_mH 256 ((f_X7_splits mN mC mH mW mB mX).2.2.1), aI G q_mW 8 ((f_X7_splits mN mC mH mW mB mX).2.2.2.1), aI G q_mB 8 ((f_X7_splits mN mC mH mW mB mX).2.2.2.2.1), aI G q_mX 8 ((f_X7_splits mN mC mH mW mB mX).2.2.2.2.2.1)] H := hP
          have hD : va_D A [oX7 q_m 0 q_mA mK mZ mO mF mQ mU mG mP mY q_mN q_mR q_mS ((f_X7_snap mN mS mV).2) mL q_mC q_mH q_mW q_mB q_mX ((f_X7_splits mN mC mH mW mB mX).2.2.2.2.2.2), aI G q_mN 181 (upd w_mN (Int32.toNatClampNeg (165 + v1)) 0), aI G q_mS 1810 ((f_X7_snap mN mS mV).1), aI G q_mC 256 ((f_X7_splits mN mC mH mW mB mX).2.1), aI G q_mH 256 ((f_X7_splits mN mC mH mW mB mX).2.2.1), aI G q_mW 8 ((f_X7_splits mN mC mH mW mB mX).2.2.2.1), aI G q_mB 8 ((f_X7_splits mN mC mH mW mB mX).2.2.2.2.1), aI G q_mX 8 ((f_X7_splits mN mC mH mW mB mX).2.2.2.2.2.1)] := hD
          refine lv_iinc (v := (v1 + 1)) (lv' := [(1, .int (v1 + 1)), (0, .ref q_m)]) hx hb dX7_take_40 hl (k := 1) rfl (by rfl) (by decide) rfl (fun ls hl => ?_)
          refine lv_goto (tgt := 23) hx hb dX7_take_43 (by decide) ?_
          have e9 : f_X7_take_L23  (n + 1) v1 w_mN = f_X7_take_L23  n (v1 + 1) (upd w_mN (Int32.toNatClampNeg (165 + v1)) 0) := by rw [f_X7_take_L23, if_neg c_4]
          rw [e9] at kk
          exact ih (v1 + 1) (upd w_mN (Int32.toNatClampNeg (165 + v1)) 0) hk _ _ hP hD hS ls (lv_sub hl [1, 0] rfl) kk
    obtain ⟨hkL, hk⟩ := hk
    refine L23 FU 0 mN hkL _ _ hP hD hS ls (lv_sub hl [1, 0] rfl) (fun H locs hP hD hS ls hl => ?_)
    have hP : va_P (gD G) vwCl [oX7 q_m 0 q_mA mK mZ mO mF mQ mU mG mP mY q_mN q_mR q_mS ((f_X7_snap mN mS mV).2) mL q_mC q_mH q_mW q_mB q_mX ((f_X7_splits mN mC mH mW mB mX).2.2.2.2.2.2), aI G q_mN 181 ((f_X7_take_L23  FU 0 mN).2), aI G q_mS 1810 ((f_X7_snap mN mS mV).1), aI G q_mC 256 ((f_X7_splits mN mC mH mW mB mX).2.1), aI G q_mH 256 ((f_X7_splits mN mC mH mW mB mX).2.2.1), aI G q_mW 8 ((f_X7_splits mN mC mH mW mB mX).2.2.2.1), aI G q_mB 8 ((f_X7_splits mN mC mH mW mB mX).2.2.2.2.1), aI G q_mX 8 ((f_X7_splits mN mC mH mW mB mX).2.2.2.2.2.1)] H := hP
    have hD : va_D A [oX7 q_m 0 q_mA mK mZ mO mF mQ mU mG mP mY q_mN q_mR q_mS ((f_X7_snap mN mS mV).2) mL q_mC q_mH q_mW q_mB q_mX ((f_X7_splits mN mC mH mW mB mX).2.2.2.2.2.2), aI G q_mN 181 ((f_X7_take_L23  FU 0 mN).2), aI G q_mS 1810 ((f_X7_snap mN mS mV).1), aI G q_mC 256 ((f_X7_splits mN mC mH mW mB mX).2.1), aI G q_mH 256 ((f_X7_splits mN mC mH mW mB mX).2.2.1), aI G q_mW 8 ((f_X7_splits mN mC mH mW mB mX).2.2.2.1), aI G q_mB 8 ((f_X7_splits mN mC mH mW mB mX).2.2.2.2.1), aI G q_mX 8 ((f_X7_splits mN mC mH mW mB mX).2.2.2.2.2.1)] := hD
    refine lv_iconst (v := 0) hx hb dX7_take_46 (by decide) ?_
    refine lv_istore_n (lv' := [(1, .int 0), (0, .ref q_m)]) hx hb dX7_take_47 rfl hl (by decide) rfl (fun ls hl => ?_)
    refine lv_iconst (v := 0) hx hb dX7_take_48 (by decide) ?_
    refine lv_istore_n (lv' := [(2, .int 0), (1, .int 0), (0, .ref q_m)]) hx hb dX7_take_49 rfl hl (by decide) rfl (fun ls hl => ?_)
    have L50 : ∀ (n : Nat) (v1 : Int32) (v2 : Int32) (w_mN : Nat → Int32), k_X7_take_L50 mN mC mH mW mB mX n v1 v2 w_mN → ∀ (H : Heap) (locs : List Loc), va_P (gD G) vwCl [oX7 q_m 0 q_mA mK mZ mO mF mQ mU mG mP mY q_mN q_mR q_mS ((f_X7_snap mN mS mV).2) mL q_mC q_mH q_mW q_mB q_mX ((f_X7_splits mN mC mH mW mB mX).2.2.2.2.2.2), aI G q_mN 181 w_mN, aI G q_mS 1810 ((f_X7_snap mN mS mV).1), aI G q_mC 256 ((f_X7_splits mN mC mH mW mB mX).2.1), aI G q_mH 256 ((f_X7_splits mN mC mH mW mB mX).2.2.1), aI G q_mW 8 ((f_X7_splits mN mC mH mW mB mX).2.2.2.1), aI G q_mB 8 ((f_X7_splits mN mC mH mW mB mX).2.2.2.2.1), aI G q_mX 8 ((f_X7_splits mN mC mH mW mB mX).2.2.2.2.2.1)] H → va_D A [oX7 q_m 0 q_mA mK mZ mO mF mQ mU mG mP mY q_mN q_mR q_mS ((f_X7_snap mN mS mV).2) mL q_mC q_mH q_mW q_mB q_mX ((f_X7_splits mN mC mH mW mB mX).2.2.2.2.2.2), aI G q_mN 181 w_mN, aI G q_mS 1810 ((f_X7_snap mN mS mV).1), aI G q_mC 256 ((f_X7_splits mN mC mH mW mB mX).2.1), aI G q_mH 256 ((f_X7_splits mN mC mH mW mB mX).2.2.1), aI G q_mW 8 ((f_X7_splits mN mC mH mW mB mX).2.2.2.1), aI G q_mB 8 ((f_X7_splits mN mC mH mW mB mX).2.2.2.2.1), aI G q_mX 8 ((f_X7_splits mN mC mH mW mB mX).2.2.2.2.2.1)] → va_S A s.heap H locs → ∀ (ls : Array Slot), lv_has ls 4 [(0, .ref q_m), (1, .int v1), (2, .int v2)] → (∀ (H : Heap) (locs : List Loc), va_P (gD G) vwCl [oX7 q_m 0 q_mA mK mZ mO mF mQ mU mG mP mY q_mN q_mR q_mS ((f_X7_snap mN mS mV).2) mL q_mC q_mH q_mW q_mB q_mX ((f_X7_splits mN mC mH mW mB mX).2.2.2.2.2.2), aI G q_mN 181 ((f_X7_take_L50 mN mC mH mW mB mX n v1 v2 w_mN).2.2), aI G q_mS 1810 ((f_X7_snap mN mS mV).1), aI G q_mC 256 ((f_X7_splits mN mC mH mW mB mX).2.1), aI G q_mH 256 ((f_X7_splits mN mC mH mW mB mX).2.2.1), aI G q_mW 8 ((f_X7_splits mN mC mH mW mB mX).2.2.2.1), aI G q_mB 8 ((f_X7_splits mN mC mH mW mB mX).2.2.2.2.1), aI G q_mX 8 ((f_X7_splits mN mC mH mW mB mX).2.2.2.2.2.1)] H → va_D A [oX7 q_m 0 q_mA mK mZ mO mF mQ mU mG mP mY q_mN q_mR q_mS ((f_X7_snap mN mS mV).2) mL q_mC q_mH q_mW q_mB q_mX ((f_X7_splits mN mC mH mW mB mX).2.2.2.2.2.2), aI G q_mN 181 ((f_X7_take_L50 mN mC mH mW mB mX n v1 v2 w_mN).2.2), aI G q_mS 1810 ((f_X7_snap mN mS mV).1), aI G q_mC 256 ((f_X7_splits mN mC mH mW mB mX).2.1), aI G q_mH 256 ((f_X7_splits mN mC mH mW mB mX).2.2.1), aI G q_mW 8 ((f_X7_splits mN mC mH mW mB mX).2.2.2.1), aI G q_mB 8 ((f_X7_splits mN mC mH mW mB mX).2.2.2.2.1), aI G q_mX 8 ((f_X7_splits mN mC mH mW mB mX).2.2.2.2.2.1)] → va_S A s.heap H locs → ∀ (ls : Array Slot), lv_has ls 4 [(0, .ref q_m), (1, .int ((f_X7_take_L50 mN mC mH mW mB mX n v1 v2 w_mN).1)), (2, .int ((f_X7_take_L50 mN mC mH mW mB mX n v1 v2 w_mN).2.1))] → W p l e (rm 22) s m args below meth c H locs 0 0 Q (F0 m 122 ls [])) → W p l e (rm 22) s m args below meth c H locs 0 0 Q (F0 m 50 ls []) := by
      intro n
      induction n with
      | zero => intro v1 v2 w_mN hk; exact (hk : False).elim
      | succ n ih =>
        intro v1 v2 w_mN hk H locs hP hD hS ls hl kk
        rw [k_X7_take_L50] at hk
        refine lv_iload_n hx hb dX7_take_50 rfl (lv_at hl 2 rfl) ?_
        refine lv_aload_n hx hb dX7_take_51 rfl (lv_at hl 0 rfl) ?_
        refine va_get (D := gD G) (ci := 7) (v := .ref q_mN) (C := RX7) (T := TX7) (N := 22) hx hb hts i_X7 hown hB.1 hP 0 rfl rfl 11 (by decide) t_1 (fun _ h9 => h9) rfl dX7_take_52 ?_
        refine lv_iconst (v := 1) hx hb dX7_take_55 (by decide) ?_
        refine va_iald hx hb hB.1 hP 1 1 rfl rfl (by unfold vp_in; decide) dX7_take_56 ?_
        refine lv_icmp_ge (tgt := 122) hx hb dX7_take_57 (by decide) (fun c_6 => ?_) (fun c_6 => ?_)
        · rw [if_pos c_6] at hk
          have e9 : f_X7_take_L50 mN mC mH mW mB mX (n + 1) v1 v2 w_mN = (v1, v2, w_mN) := by rw [f_X7_take_L50, if_pos c_6]
          rw [e9] at kk
          exact kk _ _ hP hD hS ls (lv_sub hl [0, 1, 2] rfl)
        · rw [if_neg c_6] at hk
          refine lv_aload_n hx hb dX7_take_60 rfl (lv_at hl 0 rfl) ?_
          refine va_get (D := gD G) (ci := 7) (v := .ref q_mB) (C := RX7) (T := TX7) (N := 22) hx hb hts i_X7 hown hB.1 hP 0 rfl rfl 19 (by decide) t_2 (fun _ h9 => h9) rfl dX7_take_61 ?_
          refine lv_iload_n hx hb dX7_take_64 rfl (lv_at hl 2 rfl) ?_
          obtain ⟨o_7, hk⟩ := hk
          refine va_iald hx hb hB.1 hP 6 1 rfl rfl o_7 dX7_take_65 ?_
          refine lv_iconst (v := 3) hx hb dX7_take_66 (by decide) ?_
          refine lv_idiv hx hb dX7_take_67 (by decide) ?_
          refine lv_istore_n (lv' := [(3, .int ((((f_X7_splits mN mC mH mW mB mX).2.2.2.2.1) (Int32.toNatClampNeg v2)) / 3)), (0, .ref q_m), (1, .int v1), (2, .int v2)]) hx hb dX7_take_68 rfl hl (by decide) rfl (fun ls hl => ?_)
          refine lv_aload_n hx hb dX7_take_69 rfl (lv_at hl 1 rfl) ?_
          refine va_get (D := gD G) (ci := 7) (v := .ref q_mN) (C := RX7) (T := TX7) (N := 22) hx hb hts i_X7 hown hB.1 hP 0 rfl rfl 11 (by decide) t_1 (fun _ h9 => h9) rfl dX7_take_70 ?_
          refine lv_sipush (v := 133) hx hb dX7_take_73 (by decide) ?_
          refine lv_iconst (v := 4) hx hb dX7_take_76 (by decide) ?_
          refine lv_iload_n hx hb dX7_take_77 rfl (lv_at hl 3 rfl) ?_
          refine lv_imul hx hb dX7_take_78 ?_
          refine lv_iadd hx hb dX7_take_79 ?_
          refine lv_iconst (v := 3) hx hb dX7_take_80 (by decide) ?_
          refine lv_iadd hx hb dX7_take_81 ?_
          refine lv_iload_n hx hb dX7_take_82 rfl (lv_at hl 0 rfl) ?_
          refine lv_iconst (v := 1) hx hb dX7_take_83 (by decide) ?_
          refine lv_iadd hx hb dX7_take_84 ?_
          obtain ⟨o_8, hk⟩ := hk
          refine va_iast hx hb hB.1 hP hD hS 1 1 rfl rfl o_8 dX7_take_85 (fun H locs hP hD hS => ?_)
          have hP : va_P (gD G) vwCl [oX7 q_m 0 q_mA mK mZ mO mF mQ mU mG mP mY q_mN q_mR q_mS ((f_X7_snap mN mS mV).2) mL q_mC q_mH q_mW q_mB q_mX ((f_X7_splits mN mC mH mW mB mX).2.2.2.2.2.2), aI G q_mN 181 (upd w_mN (Int32.toNatClampNeg ((133 + (4 * v2)) + 3)) (((((f_X7_splits mN mC mH mW mB mX).2.2.2.2.1) (Int32.toNatClampNeg v2)) / 3) + 1)), aI G q_mS 1810 ((f_X7_snap mN mS mV).1), aI G q_mC 256 ((f_X7_splits mN mC mH mW mB mX).2.1), aI G q_mH 256 ((f_X7_splits mN mC mH mW mB mX).2.2.1), aI G q_mW 8 ((f_X7_splits mN mC mH mW mB mX).2.2.2.1), aI G q_mB 8 ((f_X7_splits mN mC mH mW mB mX).2.2.2.2.1), aI G q_mX 8 ((f_X7_splits mN mC mH mW mB mX).2.2.2.2.2.1)] H := hP
          have hD : va_D A [oX7 q_m 0 q_mA mK mZ mO mF mQ mU mG mP mY q_mN q_mR q_mS ((f_X7_snap mN mS mV).2) mL q_mC q_mH q_mW q_mB q_mX ((f_X7_splits mN mC mH mW mB mX).2.2.2.2.2.2), aI G q_mN 181 (upd w_mN (Int32.toNatClampNeg ((133 + (4 * v2)) + 3)) (((((f_X7_splits mN mC mH mW mB mX).2.2.2.2.1) (Int32.toNatClampNeg v2)) / 3) + 1)), aI G q_mS 1810 ((f_X7_snap mN mS mV).1), aI G q_mC 256 ((f_X7_splits mN mC mH mW mB mX).2.1), aI G q_mH 256 ((f_X7_splits mN mC mH mW mB mX).2.2.1), aI G q_mW 8 ((f_X7_splits mN mC mH mW mB mX).2.2.2.1), aI G q_mB 8 ((f_X7_splits mN mC mH mW mB mX).2.2.2.2.1), aI G q_mX 8 ((f_X7_splits mN mC mH mW mB mX).2.2.2.2.2.1)] := hD
          refine lv_aload_n hx hb dX7_take_86 rfl (lv_at hl 1 rfl) ?_
          refine va_get (D := gD G) (ci := 7) (v := .ref q_mN) (C := RX7) (T := TX7) (N := 22) hx hb hts i_X7 hown hB.1 hP 0 rfl rfl 11 (by decide) t_1 (fun _ h9 => h9) rfl dX7_take_87 ?_
          refine lv_sipush (v := 165) hx hb dX7_take_90 (by decide) ?_
          refine lv_iconst (v := 2) hx hb dX7_take_93 (by decide) ?_
          refine lv_iload_n hx hb dX7_take_94 rfl (lv_at hl 0 rfl) ?_
          refine lv_imul hx hb dX7_take_95 ?_
          refine lv_iadd hx hb dX7_take_96 ?_
          refine lv_iconst (v := 0) hx hb dX7_take_97 (by decide) ?_
          refine lv_iadd hx hb dX7_take_98 ?_
          refine lv_aload_n hx hb dX7_take_99 rfl (lv_at hl 1 rfl) ?_
          refine va_get (D := gD G) (ci := 7) (v := .ref q_mB) (C := RX7) (T := TX7) (N := 22) hx hb hts i_X7 hown hB.1 hP 0 rfl rfl 19 (by decide) t_2 (fun _ h9 => h9) rfl dX7_take_100 ?_
          refine lv_iload_n hx hb dX7_take_103 rfl (lv_at hl 3 rfl) ?_
          obtain ⟨o_9, hk⟩ := hk
          refine va_iald hx hb hB.1 hP 6 1 rfl rfl o_9 dX7_take_104 ?_
          refine lv_iconst (v := 3) hx hb dX7_take_105 (by decide) ?_
          refine lv_irem hx hb dX7_take_106 (by decide) ?_
          refine W.eq (g2 := F0 m 107 ls [.int (jrem (((f_X7_splits mN mC mH mW mB mX).2.2.2.2.1) (Int32.toNatClampNeg v2)) 3), .int ((165 + (2 * ((((f_X7_splits mN mC mH mW mB mX).2.2.2.2.1) (Int32.toNatClampNeg v2)) / 3))) + 0), .ref q_mN]) rfl ?_
          obtain ⟨o_10, hk⟩ := hk
          refine va_iast hx hb hB.1 hP hD hS 1 1 rfl rfl o_10 dX7_take_107 (fun H locs hP hD hS => ?_)
          have hP : va_P (gD G) vwCl [oX7 q_m 0 q_mA mK mZ mO mF mQ mU mG mP mY q_mN q_mR q_mS ((f_X7_snap mN mS mV).2) mL q_mC q_mH q_mW q_mB q_mX ((f_X7_splits mN mC mH mW mB mX).2.2.2.2.2.2), aI G q_mN 181 (upd (upd w_mN (Int32.toNatClampNeg ((133 + (4 * v2)) + 3)) (((((f_X7_splits mN mC mH mW mB mX).2.2.2.2.1) (Int32.toNatClampNeg v2)) / 3) + 1)) (Int32.toNatClampNeg ((165 + (2 * ((((f_X7_splits mN mC mH mW mB mX).2.2.2.2.1) (Int32.toNatClampNeg v2)) / 3))) + 0)) (jrem (((f_X7_splits mN mC mH mW mB mX).2.2.2.2.1) (Int32.toNatClampNeg v2)) 3)), aI G q_mS 1810 ((f_X7_snap mN mS mV).1), aI G q_mC 256 ((f_X7_splits mN mC mH mW mB mX).2.1), aI G q_mH 256 ((f_X7_splits mN mC mH mW mB mX).2.2.1), aI G q_mW 8 ((f_X7_splits mN mC mH mW mB mX).2.2.2.1), aI G q_mB 8 ((f_X7_splits mN mC mH mW mB mX).2.2.2.2.1), aI G q_mX 8 ((f_X7_splits mN mC mH mW mB mX).2.2.2.2.2.1)] H := hP
          have hD : va_D A [oX7 q_m 0 q_mA mK mZ mO mF mQ mU mG mP mY q_mN q_mR q_mS ((f_X7_snap mN mS mV).2) mL q_mC q_mH q_mW q_mB q_mX ((f_X7_splits mN mC mH mW mB mX).2.2.2.2.2.2), aI G q_mN 181 (upd (upd w_mN (Int32.toNatClampNeg ((133 + (4 * v2)) + 3)) (((((f_X7_splits mN mC mH mW mB mX).2.2.2.2.1) (Int32.toNatClampNeg v2)) / 3) + 1)) (Int32.toNatClampNeg ((165 + (2 * ((((f_X7_splits mN mC mH mW mB mX).2.2.2.2.1) (Int32.toNatClampNeg v2)) / 3))) + 0)) (jrem (((f_X7_splits mN mC mH mW mB mX).2.2.2.2.1) (Int32.toNatClampNeg v2)) 3)), aI G q_mS 1810 ((f_X7_snap mN mS mV).1), aI G q_mC 256 ((f_X7_splits mN mC mH mW mB mX).2.1), aI G q_mH 256 ((f_X7_splits mN mC mH mW mB mX).2.2.1), aI G q_mW 8 ((f_X7_splits mN mC mH mW mB mX).2.2.2.1), aI G q_mB 8 ((f_X7_splits mN mC mH mW mB mX).2.2.2.2.1), aI G q_mX 8 ((f_X7_splits mN mC mH mW mB mX).2.2.2.2.2.1)] := hD
          refine lv_iload_n hx hb dX7_take_108 rfl (lv_at hl 0 rfl) ?_
          refine lv_iload_n hx hb dX7_take_109 rfl (lv_at hl 2 rfl) ?_
          refine lv_icmp_ne (tgt := 116) hx hb dX7_take_110 (by decide) (fun c_11 => ?_) (fun c_11 => ?_)
          · rw [if_neg c_11] at hk
            refine lv_iinc (v := (v2 + 1)) (lv' := [(2, .int (v2 + 1)), (3, .int ((((f_X7_splits mN mC mH mW mB mX).2.2.2.2.1) (Int32.toNatClampNeg v2)) / 3)), (0, .ref q_m), (1, .int v1)]) hx hb dX7_take_116 hl (k := 3) rfl (by rfl) (by decide) rfl (fun ls hl => ?_)
            refine lv_goto (tgt := 50) hx hb dX7_take_119 (by decide) ?_
            have e9 : f_X7_take_L50 mN mC mH mW mB mX (n + 1) v1 v2 w_mN = f_X7_take_L50 mN mC mH mW mB mX n v1 (v2 + 1) (upd (upd w_mN (Int32.toNatClampNeg ((133 + (4 * v2)) + 3)) (((((f_X7_splits mN mC mH mW mB mX).2.2.2.2.1) (Int32.toNatClampNeg v2)) / 3) + 1)) (Int32.toNatClampNeg ((165 + (2 * ((((f_X7_splits mN mC mH mW mB mX).2.2.2.2.1) (Int32.toNatClampNeg v2)) / 3))) + 0)) (jrem (((f_X7_splits mN mC mH mW mB mX).2.2.2.2.1) (Int32.toNatClampNeg v2)) 3)) := by rw [f_X7_take_L50, if_neg c_6, if_neg c_11]
            rw [e9] at kk
            exact ih v1 (v2 + 1) (upd (upd w_mN (Int32.toNatClampNeg ((133 + (4 * v2)) + 3)) (((((f_X7_splits mN mC mH mW mB mX).2.2.2.2.1) (Int32.toNatClampNeg v2)) / 3) + 1)) (Int32.toNatClampNeg ((165 + (2 * ((((f_X7_splits mN mC mH mW mB mX).2.2.2.2.1) (Int32.toNatClampNeg v2)) / 3))) + 0)) (jrem (((f_X7_splits mN mC mH mW mB mX).2.2.2.2.1) (Int32.toNatClampNeg v2)) 3)) hk _ _ hP hD hS ls (lv_sub hl [2, 3, 0] rfl) kk
          · rw [if_pos c_11] at hk
            refine lv_iinc (v := (v1 + 1)) (lv' := [(1, .int (v1 + 1)), (3, .int ((((f_X7_splits mN mC mH mW mB mX).2.2.2.2.1) (Int32.toNatClampNeg v2)) / 3)), (0, .ref q_m), (2, .int v2)]) hx hb dX7_take_113 hl (k := 2) rfl (by rfl) (by decide) rfl (fun ls hl => ?_)
            refine lv_iinc (v := (v2 + 1)) (lv' := [(2, .int (v2 + 1)), (1, .int (v1 + 1)), (3, .int ((((f_X7_splits mN mC mH mW mB mX).2.2.2.2.1) (Int32.toNatClampNeg v2)) / 3)), (0, .ref q_m)]) hx hb dX7_take_116 hl (k := 3) rfl (by rfl) (by decide) rfl (fun ls hl => ?_)
            refine lv_goto (tgt := 50) hx hb dX7_take_119 (by decide) ?_
            have e9 : f_X7_take_L50 mN mC mH mW mB mX (n + 1) v1 v2 w_mN = f_X7_take_L50 mN mC mH mW mB mX n (v1 + 1) (v2 + 1) (upd (upd w_mN (Int32.toNatClampNeg ((133 + (4 * v2)) + 3)) (((((f_X7_splits mN mC mH mW mB mX).2.2.2.2.1) (Int32.toNatClampNeg v2)) / 3) + 1)) (Int32.toNatClampNeg ((165 + (2 * ((((f_X7_splits mN mC mH mW mB mX).2.2.2.2.1) (Int32.toNatClampNeg v2)) / 3))) + 0)) (jrem (((f_X7_splits mN mC mH mW mB mX).2.2.2.2.1) (Int32.toNatClampNeg v2)) 3)) := by rw [f_X7_take_L50, if_neg c_6, if_pos c_11]
            rw [e9] at kk
            exact ih (v1 + 1) (v2 + 1) (upd (upd w_mN (Int32.toNatClampNeg ((133 + (4 * v2)) + 3)) (((((f_X7_splits mN mC mH mW mB mX).2.2.2.2.1) (Int32.toNatClampNeg v2)) / 3) + 1)) (Int32.toNatClampNeg ((165 + (2 * ((((f_X7_splits mN mC mH mW mB mX).2.2.2.2.1) (Int32.toNatClampNeg v2)) / 3))) + 0)) (jrem (((f_X7_splits mN mC mH mW mB mX).2.2.2.2.1) (Int32.toNatClampNeg v2)) 3)) hk _ _ hP hD hS ls (lv_sub hl [3, 1, 0] rfl) kk
    obtain ⟨hkL, hk⟩ := hk
    refine L50 FU 0 0 ((f_X7_take_L23  FU 0 mN).2) hkL _ _ hP hD hS ls (lv_sub hl [2, 1, 0] rfl) (fun H locs hP hD hS ls hl => ?_)
    have hP : va_P (gD G) vwCl [oX7 q_m 0 q_mA mK mZ mO mF mQ mU mG mP mY q_mN q_mR q_mS ((f_X7_snap mN mS mV).2) mL q_mC q_mH q_mW q_mB q_mX ((f_X7_splits mN mC mH mW mB mX).2.2.2.2.2.2), aI G q_mN 181 ((f_X7_take_L50 mN mC mH mW mB mX FU 0 0 ((f_X7_take_L23  FU 0 mN).2)).2.2), aI G q_mS 1810 ((f_X7_snap mN mS mV).1), aI G q_mC 256 ((f_X7_splits mN mC mH mW mB mX).2.1), aI G q_mH 256 ((f_X7_splits mN mC mH mW mB mX).2.2.1), aI G q_mW 8 ((f_X7_splits mN mC mH mW mB mX).2.2.2.1), aI G q_mB 8 ((f_X7_splits mN mC mH mW mB mX).2.2.2.2.1), aI G q_mX 8 ((f_X7_splits mN mC mH mW mB mX).2.2.2.2.2.1)] H := hP
    have hD : va_D A [oX7 q_m 0 q_mA mK mZ mO mF mQ mU mG mP mY q_mN q_mR q_mS ((f_X7_snap mN mS mV).2) mL q_mC q_mH q_mW q_mB q_mX ((f_X7_splits mN mC mH mW mB mX).2.2.2.2.2.2), aI G q_mN 181 ((f_X7_take_L50 mN mC mH mW mB mX FU 0 0 ((f_X7_take_L23  FU 0 mN).2)).2.2), aI G q_mS 1810 ((f_X7_snap mN mS mV).1), aI G q_mC 256 ((f_X7_splits mN mC mH mW mB mX).2.1), aI G q_mH 256 ((f_X7_splits mN mC mH mW mB mX).2.2.1), aI G q_mW 8 ((f_X7_splits mN mC mH mW mB mX).2.2.2.1), aI G q_mB 8 ((f_X7_splits mN mC mH mW mB mX).2.2.2.2.1), aI G q_mX 8 ((f_X7_splits mN mC mH mW mB mX).2.2.2.2.2.1)] := hD
    refine lv_iload_n hx hb dX7_take_122 rfl (lv_at hl 1 rfl) ?_
    have e9 : f_X7_take mN mS mC mH mW mB mX mV = (((f_X7_take_L50 mN mC mH mW mB mX FU 0 0 ((f_X7_take_L23  FU 0 mN).2)).1), ((f_X7_take_L50 mN mC mH mW mB mX FU 0 0 ((f_X7_take_L23  FU 0 mN).2)).2.2), ((f_X7_snap mN mS mV).1), ((f_X7_splits mN mC mH mW mB mX).2.1), ((f_X7_splits mN mC mH mW mB mX).2.2.1), ((f_X7_splits mN mC mH mW mB mX).2.2.2.1), ((f_X7_splits mN mC mH mW mB mX).2.2.2.2.1), ((f_X7_splits mN mC mH mW mB mX).2.2.2.2.2.1), 0, ((f_X7_snap mN mS mV).2), ((f_X7_splits mN mC mH mW mB mX).2.2.2.2.2.2)) := by rw [f_X7_take, if_neg c_2]
    exact fi 123 _ ((f_X7_take_L50 mN mC mH mW mB mX FU 0 0 ((f_X7_take_L23  FU 0 mN).2)).1) .int _ _ rfl rfl dX7_take_123 (by simp only [e9]) (by rw [e9]; exact hP) (by rw [e9]; exact hD) hS
  · rw [if_pos c_2] at hk
    refine lv_bipush (v := (-2)) hx hb dX7_take_14 (by decide) ?_
    have e9 : f_X7_take mN mS mC mH mW mB mX mV = ((-2), mN, mS, ((f_X7_splits mN mC mH mW mB mX).2.1), ((f_X7_splits mN mC mH mW mB mX).2.2.1), ((f_X7_splits mN mC mH mW mB mX).2.2.2.1), ((f_X7_splits mN mC mH mW mB mX).2.2.2.2.1), ((f_X7_splits mN mC mH mW mB mX).2.2.2.2.2.1), 0, mV, ((f_X7_splits mN mC mH mW mB mX).2.2.2.2.2.2)) := by rw [f_X7_take, if_pos c_2]
    exact fi 16 _ (-2) .int _ _ rfl rfl dX7_take_16 (by simp only [e9]) (by rw [e9]; exact hP) (by rw [e9]; exact hD) hS
