noncomputable def f_L_good (x1 : Int32) (x2 : Int32) (pS : Nat → Int32) (lO : Nat → Int64) (bG : Nat → Int32) (bM : Int32) : Int32 × (Nat → Int64) := (0, (vp_updL lO (Int32.toNatClampNeg 0) (Int32.toInt64 (f_X6_good x1 x2 pS bG bM))))
noncomputable def k_L_good (x1 : Int32) (x2 : Int32) (bM : Int32) : Prop := (k_X6_good x1 x2 bM ∧ True)
theorem hd_L_good : yL_good.cls ≠ "java/lang/invoke/MethodHandle" ∧ yL_good.cls ≠ "java/lang/invoke/VarHandle" ∧ (parseMethodDescriptor yL_good.desc).map (fun d => d.parameters.length) = some 4 := by decide +kernel
set_option maxHeartbeats 4000000 in
set_option maxRecDepth 100000 in
theorem c_L_good (l : Launch) (G : BGT) (q_x q_t q_b q_d q_e q_r q_s q_p q_bA q_bB q_bZ q_bG q_bP q_bQ q_pS q_pE q_lO : Nat) (xF : Int32) (bC : Int32) (bM : Int32) (bL : Int32) (bD : Int32) (bG : Nat → Int32) (pN : Int32) (pK : Int32) (pS : Nat → Int32) (lO : Nat → Int64) (x1 : Int32) (x2 : Int32) (hk : k_L_good x1 x2 bM) : WR l yL_good wsM_good 3 G [oX6 q_x q_t q_b q_d q_e q_r q_s q_p xF, oX0 q_b q_bA q_bB q_bZ q_bG q_bP q_bQ bC bM bL bD, aI G q_bG 24 bG, oX1 q_p q_pS q_pE pN pK, aI G q_pS 26 pS, aJ G q_lO 1 lO] [oX6 q_x q_t q_b q_d q_e q_r q_s q_p xF, oX0 q_b q_bA q_bB q_bZ q_bG q_bP q_bQ bC bM bL bD, aI G q_bG 24 bG, oX1 q_p q_pS q_pE pN pK, aI G q_pS 26 pS, aJ G q_lO 1 ((f_L_good x1 x2 pS lO bG bM).2)] [.ref q_x, .int x1, .int x2, .ref q_lO] (some (.int ((f_L_good x1 x2 pS lO bG bM).1))) := by
  refine WRW.ofW (hh := [(0, 10, 13, 13)]) (cc := cL_good) (maxL := 5) (ret := (some .int)) (C := RL) (by decide) rfl rfl (Nat.le_of_ble_eq_true rfl) ?_
  intro p e s m args below meth c Q ls A hx hb hml hts hown hP hD hS hA hB hl fi fv
  have hl : lv_has ls 5 [(0, .ref q_x), (1, .int x1), (2, .int x2), (3, .ref q_lO)] := hl
  rw [k_L_good] at hk
  refine lv_aload_n hx hb dL_good_0 rfl (lv_at hl 3 rfl) ?_
  refine lv_iconst (v := 0) hx hb dL_good_1 (by decide) ?_
  refine lv_aload_n hx hb dL_good_2 rfl (lv_at hl 0 rfl) ?_
  refine lv_iload_n hx hb dL_good_3 rfl (lv_at hl 1 rfl) ?_
  refine lv_iload_n hx hb dL_good_4 rfl (lv_at hl 2 rfl) ?_
  obtain ⟨o_1, hk⟩ := hk
  refine ro_V (ci := 6) (q0 := 0) (As := [.int x1, .int x2]) (rest := [.int 0, .ref q_lO]) (c_X6_good l G q_x q_t q_b q_d q_e q_r q_s q_p q_bA q_bB q_bZ q_bG q_bP q_bQ q_pS q_pE xF bC bM bL bD bG pN pK pS x1 x2 o_1) [0, 1, 2, 3, 4] rfl rfl rfl rfl gM_good_N_good ⟨_, rfl⟩ hd_X6_good rfl dL_good_5 rfl rfl (Nat.le_of_ble_eq_true rfl) ⟨Nat.le_of_ble_eq_true rfl, Nat.le_of_ble_eq_true rfl⟩ ⟨Nat.le_refl 0, Nat.le_refl 0⟩ hx hb hml hown hts hB hS hP hl.1 ?_
  refine W.eq (g2 := F0 m 8 ls [.int (f_X6_good x1 x2 pS bG bM), .int 0, .ref q_lO]) rfl ?_
  refine lv_i2l (v := (Int32.toInt64 (f_X6_good x1 x2 pS bG bM))) hx hb dL_good_8 rfl ?_
  refine va_last hx hb hB.1 hP hD hS 5 2 rfl rfl (by unfold vp_in; decide) dL_good_9 (fun H locs hP hD hS => ?_)
  have hP : va_P (gD G) vwCl [oX6 q_x q_t q_b q_d q_e q_r q_s q_p xF, oX0 q_b q_bA q_bB q_bZ q_bG q_bP q_bQ bC bM bL bD, aI G q_bG 24 bG, oX1 q_p q_pS q_pE pN pK, aI G q_pS 26 pS, aJ G q_lO 1 (vp_updL lO (Int32.toNatClampNeg 0) (Int32.toInt64 (f_X6_good x1 x2 pS bG bM)))] H := hP
  have hD : va_D A [oX6 q_x q_t q_b q_d q_e q_r q_s q_p xF, oX0 q_b q_bA q_bB q_bZ q_bG q_bP q_bQ bC bM bL bD, aI G q_bG 24 bG, oX1 q_p q_pS q_pE pN pK, aI G q_pS 26 pS, aJ G q_lO 1 (vp_updL lO (Int32.toNatClampNeg 0) (Int32.toInt64 (f_X6_good x1 x2 pS bG bM)))] := hD
  refine lv_goto (tgt := 17) hx hb dL_good_10 (by decide) ?_
  refine lv_iconst (v := 0) hx hb dL_good_17 (by decide) ?_
  have e9 : f_L_good x1 x2 pS lO bG bM = (0, (vp_updL lO (Int32.toNatClampNeg 0) (Int32.toInt64 (f_X6_good x1 x2 pS bG bM)))) := by rw [f_L_good]
  exact fi 18 _ 0 .int _ _ rfl rfl dL_good_18 (by simp only [e9]) (by rw [e9]; exact hP) (by rw [e9]; exact hD) hS
