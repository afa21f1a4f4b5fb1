noncomputable def f_X6_at (x1 : Int32) (gg : Nat → Int32) (n_ : Nat) : Int32 := (if x1 < 0 then 0 else (if (nI n_) ≤ x1 then 0 else (gg (Int32.toNatClampNeg x1))))
theorem hd_X6_at : yX6_at.cls ≠ "java/lang/invoke/MethodHandle" ∧ yX6_at.cls ≠ "java/lang/invoke/VarHandle" ∧ (parseMethodDescriptor yX6_at.desc).map (fun d => d.parameters.length) = some 2 := by decide +kernel
set_option maxHeartbeats 4000000 in
set_option maxRecDepth 100000 in
theorem c_X6_at (l : Launch) (G : BGT) (n_ : Nat) (hn_n_ : n_ < 2 ^ 31) (q_gg : Nat) (gg : Nat → Int32) (x1 : Int32) : RO l yX6_at wsX6_at 0 G [aI G q_gg n_ gg] [.ref q_gg, .int x1] (some (.int (f_X6_at x1 gg n_))) := by
  refine RO.ofW (cc := cX6_at) (maxL := 2) (ret := (some .int)) (C := RX6) (by decide) rfl rfl (Nat.le_of_ble_eq_true rfl) ?_
  intro p e s m args below meth c Q ls hx hb hml hts hown hP hB hl fi fl fv
  have hS : va_S (fun _ => False) s.heap s.heap [] := va_S.rf
  have hl : lv_has ls 2 [(0, .ref q_gg), (1, .int x1)] := hl
  refine lv_iload_n hx hb dX6_at_0 rfl (lv_at hl 1 rfl) ?_
  refine lv_if_lt (tgt := 16) hx hb dX6_at_1 (by decide) (fun c_1 => ?_) (fun c_1 => ?_)
  · refine lv_iconst (v := 0) hx hb dX6_at_16 (by decide) ?_
    exact fi 17 _ 0 .int rfl rfl dX6_at_17 (by rw [f_X6_at, if_pos c_1])
  · refine lv_iload_n hx hb dX6_at_4 rfl (lv_at hl 1 rfl) ?_
    refine lv_aload_n hx hb dX6_at_5 rfl (lv_at hl 0 rfl) ?_
    refine va_alen (v := nI n_) hx hb hB.1 hP 0 1 rfl (ty := .int) rfl rfl dX6_at_6 ?_
    refine lv_icmp_ge (tgt := 16) hx hb dX6_at_7 (by decide) (fun c_2 => ?_) (fun c_2 => ?_)
    · refine lv_iconst (v := 0) hx hb dX6_at_16 (by decide) ?_
      exact fi 17 _ 0 .int rfl rfl dX6_at_17 (by rw [f_X6_at, if_neg c_1, if_pos c_2])
    · refine lv_aload_n hx hb dX6_at_10 rfl (lv_at hl 0 rfl) ?_
      refine lv_iload_n hx hb dX6_at_11 rfl (lv_at hl 1 rfl) ?_
      refine va_iald hx hb hB.1 hP 0 1 rfl rfl (in_of c_1 c_2 hn_n_) dX6_at_12 ?_
      refine lv_goto (tgt := 17) hx hb dX6_at_13 (by decide) ?_
      exact fi 17 _ (gg (Int32.toNatClampNeg x1)) .int rfl rfl dX6_at_17 (by rw [f_X6_at, if_neg c_1, if_neg c_2])

noncomputable def f_X6_at_S (x1 : Int32) (L_ : List Int32) : Int32 := (if x1 < 0 then 0 else (if (nI L_.length) ≤ x1 then 0 else (sfn L_ (Int32.toNatClampNeg x1))))
set_option maxHeartbeats 4000000 in
set_option maxRecDepth 100000 in
theorem c_X6_at_S (l : Launch) (G : BGT) (k_ : Nat) (C_ N_ : String) (L_ : List Int32) (hk_ : bgS[k_]? = some (C_, N_, L_)) (hL_ : L_.length < 2 ^ 31) (x1 : Int32) : RO l yX6_at wsX6_at 0 G [] [.ref (gS G k_), .int x1] (some (.int (f_X6_at_S x1 L_))) := by
  refine RO.ofW (cc := cX6_at) (maxL := 2) (ret := (some .int)) (C := RX6) (by decide) rfl rfl (Nat.le_of_ble_eq_true rfl) ?_
  intro p e s m args below meth c Q ls hx hb hml hts hown hP hB hl fi fl fv
  have hS : va_S (fun _ => False) s.heap s.heap [] := va_S.rf
  have hl : lv_has ls 2 [(0, .ref (gS G k_)), (1, .int x1)] := hl
  refine lv_iload_n hx hb dX6_at_0 rfl (lv_at hl 1 rfl) ?_
  refine lv_if_lt (tgt := 16) hx hb dX6_at_1 (by decide) (fun c_1 => ?_) (fun c_1 => ?_)
  · refine lv_iconst (v := 0) hx hb dX6_at_16 (by decide) ?_
    exact fi 17 _ 0 .int rfl rfl dX6_at_17 (by rw [f_X6_at_S, if_pos c_1])
  · refine lv_iload_n hx hb dX6_at_4 rfl (lv_at hl 1 rfl) ?_
    refine lv_aload_n hx hb dX6_at_5 rfl (lv_at hl 0 rfl) ?_
    refine va_tlen (v := nI L_.length) hx hb (hB.2.2.1 k_ _ hk_).2 hS rfl dX6_at_6 ?_
    refine lv_icmp_ge (tgt := 16) hx hb dX6_at_7 (by decide) (fun c_2 => ?_) (fun c_2 => ?_)
    · refine lv_iconst (v := 0) hx hb dX6_at_16 (by decide) ?_
      exact fi 17 _ 0 .int rfl rfl dX6_at_17 (by rw [f_X6_at_S, if_neg c_1, if_pos c_2])
    · refine lv_aload_n hx hb dX6_at_10 rfl (lv_at hl 0 rfl) ?_
      refine lv_iload_n hx hb dX6_at_11 rfl (lv_at hl 1 rfl) ?_
      refine va_ti (v := .int (sfn L_ (Int32.toNatClampNeg x1))) hx hb (hB.2.2.1 k_ _ hk_).2 hS (in_of c_1 c_2 hL_) rfl dX6_at_12 ?_
      refine lv_goto (tgt := 17) hx hb dX6_at_13 (by decide) ?_
      exact fi 17 _ (sfn L_ (Int32.toNatClampNeg x1)) .int rfl rfl dX6_at_17 (by rw [f_X6_at_S, if_neg c_1, if_neg c_2])

noncomputable def f_X6_store (x1 : Int32) (x2 : Int32) (gg : Nat → Int32) (n_ : Nat) : (Nat → Int32) := (if x1 < 0 then gg else (if (nI n_) ≤ x1 then gg else (upd gg (Int32.toNatClampNeg x1) x2)))
theorem hd_X6_store : yX6_store.cls ≠ "java/lang/invoke/MethodHandle" ∧ yX6_store.cls ≠ "java/lang/invoke/VarHandle" ∧ (parseMethodDescriptor yX6_store.desc).map (fun d => d.parameters.length) = some 3 := by decide +kernel
set_option maxHeartbeats 4000000 in
set_option maxRecDepth 100000 in
theorem c_X6_store (l : Launch) (G : BGT) (n_ : Nat) (hn_n_ : n_ < 2 ^ 31) (q_gg : Nat) (gg : Nat → Int32) (x1 : Int32) (x2 : Int32) : WR l yX6_store wsX6_store 0 G [aI G q_gg n_ gg] [aI G q_gg n_ (f_X6_store x1 x2 gg n_)] [.ref q_gg, .int x1, .int x2] none := by
  refine WR.ofW (cc := cX6_store) (maxL := 3) (ret := none) (C := RX6) (by decide) rfl rfl (Nat.le_of_ble_eq_true rfl) ?_
  intro p e s m args below meth c Q ls A hx hb hml hts hown hP hD hS hA hB hl fi fv
  have hl : lv_has ls 3 [(0, .ref q_gg), (1, .int x1), (2, .int x2)] := hl
  refine lv_iload_n hx hb dX6_store_0 rfl (lv_at hl 1 rfl) ?_
  refine lv_if_lt (tgt := 14) hx hb dX6_store_1 (by decide) (fun c_1 => ?_) (fun c_1 => ?_)
  · have e9 : f_X6_store x1 x2 gg n_ = gg := by rw [f_X6_store, if_pos c_1]
    exact fv 14 _ _ _ rfl dX6_store_14 rfl (by rw [e9]; exact hP) (by rw [e9]; exact hD) hS
  · refine lv_iload_n hx hb dX6_store_4 rfl (lv_at hl 1 rfl) ?_
    refine lv_aload_n hx hb dX6_store_5 rfl (lv_at hl 0 rfl) ?_
    refine va_alen (v := nI n_) hx hb hB.1 hP 0 1 rfl (ty := .int) rfl rfl dX6_store_6 ?_
    refine lv_icmp_ge (tgt := 14) hx hb dX6_store_7 (by decide) (fun c_2 => ?_) (fun c_2 => ?_)
    · have e9 : f_X6_store x1 x2 gg n_ = gg := by rw [f_X6_store, if_neg c_1, if_pos c_2]
      exact fv 14 _ _ _ rfl dX6_store_14 rfl (by rw [e9]; exact hP) (by rw [e9]; exact hD) hS
    · refine lv_aload_n hx hb dX6_store_10 rfl (lv_at hl 0 rfl) ?_
      refine lv_iload_n hx hb dX6_store_11 rfl (lv_at hl 1 rfl) ?_
      refine lv_iload_n hx hb dX6_store_12 rfl (lv_at hl 2 rfl) ?_
      refine va_iast hx hb hB.1 hP hD hS 0 1 rfl rfl (in_of c_1 c_2 hn_n_) dX6_store_13 (fun H locs hP hD hS => ?_)
      have hP : va_P (gD G) vwCl [aI G q_gg n_ (upd gg (Int32.toNatClampNeg x1) x2)] H := hP
      have hD : va_D A [aI G q_gg n_ (upd gg (Int32.toNatClampNeg x1) x2)] := hD
      have e9 : f_X6_store x1 x2 gg n_ = (upd gg (Int32.toNatClampNeg x1) x2) := by rw [f_X6_store, if_neg c_1, if_neg c_2]
      exact fv 14 _ _ _ rfl dX6_store_14 rfl (by rw [e9]; exact hP) (by rw [e9]; exact hD) hS

noncomputable def f_X6_copy_L3 (x1 : Int32) (x3 : Int32) (x4 : Int32) (gg : Nat → Int32) (n_ : Nat) (n2_ : Nat) : Nat → Int32 → (Nat → Int32) → Int32 × (Nat → Int32)
  | 0, v5, w_hh => (v5, w_hh)
  | n + 1, v5, w_hh => (if x4 ≤ v5 then (v5, w_hh) else f_X6_copy_L3 x1 x3 x4 gg n_ n2_ n (v5 + 1) (f_X6_store (x3 + v5) (f_X6_at (x1 + v5) gg n_) w_hh n2_))
noncomputable def k_X6_copy_L3 (x1 : Int32) (x3 : Int32) (x4 : Int32) (gg : Nat → Int32) (n_ : Nat) (n2_ : Nat) : Nat → Int32 → (Nat → Int32) → Prop
  | 0, _, _ => False
  | n + 1, v5, w_hh => (if x4 ≤ v5 then True else k_X6_copy_L3 x1 x3 x4 gg n_ n2_ n (v5 + 1) (f_X6_store (x3 + v5) (f_X6_at (x1 + v5) gg n_) w_hh n2_))
noncomputable def f_X6_copy (x1 : Int32) (x3 : Int32) (x4 : Int32) (gg : Nat → Int32) (hh : Nat → Int32) (n_ : Nat) (n2_ : Nat) : (Nat → Int32) := ((f_X6_copy_L3 x1 x3 x4 gg n_ n2_ FU 0 hh).2)
noncomputable def k_X6_copy (x1 : Int32) (x3 : Int32) (x4 : Int32) (gg : Nat → Int32) (hh : Nat → Int32) (n_ : Nat) (n2_ : Nat) : Prop := (k_X6_copy_L3 x1 x3 x4 gg n_ n2_ FU 0 hh ∧ True)
theorem hd_X6_copy : yX6_copy.cls ≠ "java/lang/invoke/MethodHandle" ∧ yX6_copy.cls ≠ "java/lang/invoke/VarHandle" ∧ (parseMethodDescriptor yX6_copy.desc).map (fun d => d.parameters.length) = some 5 := by decide +kernel
set_option maxHeartbeats 4000000 in
set_option maxRecDepth 100000 in
theorem c_X6_copy (l : Launch) (G : BGT) (n_ : Nat) (n2_ : Nat) (hn_n_ : n_ < 2 ^ 31) (hn_n2_ : n2_ < 2 ^ 31) (q_gg q_hh : Nat) (gg : Nat → Int32) (hh : Nat → Int32) (x1 : Int32) (x3 : Int32) (x4 : Int32) (hk : k_X6_copy x1 x3 x4 gg hh n_ n2_) : WR l yX6_copy wsX6_copy 1 G [aI G q_gg n_ gg, aI G q_hh n2_ hh] [aI G q_gg n_ gg, aI G q_hh n2_ (f_X6_copy x1 x3 x4 gg hh n_ n2_)] [.ref q_gg, .int x1, .ref q_hh, .int x3, .int x4] none := by
  refine WR.ofW (cc := cX6_copy) (maxL := 6) (ret := none) (C := RX6) (by decide) rfl rfl (Nat.le_of_ble_eq_true rfl) ?_
  intro p e s m args below meth c Q ls A hx hb hml hts hown hP hD hS hA hB hl fi fv
  have hl : lv_has ls 6 [(0, .ref q_gg), (1, .int x1), (2, .ref q_hh), (3, .int x3), (4, .int x4)] := hl
  rw [k_X6_copy] at hk
  refine lv_iconst (v := 0) hx hb dX6_copy_0 (by decide) ?_
  refine lv_istore (lv' := [(5, .int 0), (0, .ref q_gg), (1, .int x1), (2, .ref q_hh), (3, .int x3), (4, .int x4)]) hx hb dX6_copy_1 hl (by decide) rfl (fun ls hl => ?_)
  have L3 : ∀ (n : Nat) (v5 : Int32) (w_hh : Nat → Int32), k_X6_copy_L3 x1 x3 x4 gg n_ n2_ n v5 w_hh → ∀ (H : Heap) (locs : List Loc), va_P (gD G) vwCl [aI G q_gg n_ gg, aI G q_hh n2_ w_hh] H → va_D A [aI G q_gg n_ gg, aI G q_hh n2_ w_hh] → va_S A s.heap H locs → ∀ (ls : Array Slot), lv_has ls 6 [(0, .ref q_gg), (1, .int x1), (2, .ref q_hh), (3, .int x3), (4, .int x4), (5, .int v5)] → (∀ (H : Heap) (locs : List Loc), va_P (gD G) vwCl [aI G q_gg n_ gg, aI G q_hh n2_ ((f_X6_copy_L3 x1 x3 x4 gg n_ n2_ n v5 w_hh).2)] H → va_D A [aI G q_gg n_ gg, aI G q_hh n2_ ((f_X6_copy_L3 x1 x3 x4 gg n_ n2_ n v5 w_hh).2)] → va_S A s.heap H locs → ∀ (ls : Array Slot), lv_has ls 6 [(0, .ref q_gg), (1, .int x1), (2, .ref q_hh), (3, .int x3), (4, .int x4), (5, .int ((f_X6_copy_L3 x1 x3 x4 gg n_ n2_ n v5 w_hh).1))] → W p l e (rm 1) s m args below meth c H locs 0 0 Q (F0 m 32 ls [])) → W p l e (rm 1) s m args below meth c H locs 0 0 Q (F0 m 3 ls []) := by
    intro n
    induction n with
    | zero => intro v5 w_hh hk; exact (hk : False).elim
    | succ n ih =>
      intro v5 w_hh hk H locs hP hD hS ls hl kk
      rw [k_X6_copy_L3] at hk
      refine lv_iload hx hb dX6_copy_3 (lv_at hl 5 rfl) ?_
      refine lv_iload hx hb dX6_copy_5 (lv_at hl 4 rfl) ?_
      refine lv_icmp_ge (tgt := 32) hx hb dX6_copy_7 (by decide) (fun c_1 => ?_) (fun c_1 => ?_)
      · rw [if_pos c_1] at hk
        have e9 : f_X6_copy_L3 x1 x3 x4 gg n_ n2_ (n + 1) v5 w_hh = (v5, w_hh) := by rw [f_X6_copy_L3, if_pos c_1]
        rw [e9] at kk
        exact kk _ _ hP hD hS ls (lv_sub hl [0, 1, 2, 3, 4, 5] rfl)
      · rw [if_neg c_1] at hk
        refine lv_aload_n hx hb dX6_copy_10 rfl (lv_at hl 2 rfl) ?_
        refine lv_iload_n hx hb dX6_copy_11 rfl (lv_at hl 3 rfl) ?_
        refine lv_iload hx hb dX6_copy_12 (lv_at hl 5 rfl) ?_
        refine lv_iadd hx hb dX6_copy_14 ?_
        refine lv_aload_n hx hb dX6_copy_15 rfl (lv_at hl 0 rfl) ?_
        refine lv_iload_n hx hb dX6_copy_16 rfl (lv_at hl 1 rfl) ?_
        refine lv_iload hx hb dX6_copy_17 (lv_at hl 5 rfl) ?_
        refine lv_iadd hx hb dX6_copy_19 ?_
        refine ro_S (As := [.ref q_gg, .int (x1 + v5)]) (rest := [.int (x3 + v5), .ref q_hh]) (c_X6_at l G n_ hn_n_ q_gg gg (x1 + v5)) [0] rfl gX6_copy_X6_at ⟨_, rfl⟩ hd_X6_at dX6_copy_20 rfl rfl (Nat.le_of_ble_eq_true rfl) ⟨Nat.le_of_ble_eq_true rfl, Nat.le_of_ble_eq_true rfl⟩ ⟨Nat.le_refl 0, Nat.le_refl 0⟩ hx hb hml hown hts hB hS hP hl.1 ?_
        refine W.eq (g2 := F0 m 23 ls [.int (f_X6_at (x1 + v5) gg n_), .int (x3 + v5), .ref q_hh]) rfl ?_
        refine wr_S (As := [.ref q_hh, .int (x3 + v5), .int (f_X6_at (x1 + v5) gg n_)]) (rest := []) (wr := [aI G q_gg n_ gg]) (wf := [aI G q_gg n_ gg, aI G q_hh n2_ (f_X6_store (x3 + v5) (f_X6_at (x1 + v5) gg n_) w_hh n2_)]) (c_X6_store l G n2_ hn_n2_ q_hh w_hh (x3 + v5) (f_X6_at (x1 + v5) gg n_)) [1] [0] [0, 1] rfl rfl rfl (by decide) gX6_copy_X6_store ⟨_, rfl⟩ hd_X6_store dX6_copy_23 rfl rfl (Nat.le_of_ble_eq_true rfl) ⟨Nat.le_of_ble_eq_true rfl, Nat.le_of_ble_eq_true rfl⟩ ⟨Nat.le_refl 0, Nat.le_refl 0⟩ hx hb hml hown hts hB hD hS hA hP hl.1 (fun H locs hP hD hS => ?_)
        refine W.eq (g2 := F0 m 26 ls []) rfl ?_
        refine lv_iinc (v := (v5 + 1)) (lv' := [(5, .int (v5 + 1)), (0, .ref q_gg), (1, .int x1), (2, .ref q_hh), (3, .int x3), (4, .int x4)]) hx hb dX6_copy_26 hl (k := 5) rfl (by rfl) (by decide) rfl (fun ls hl => ?_)
        refine lv_goto (tgt := 3) hx hb dX6_copy_29 (by decide) ?_
        have e9 : f_X6_copy_L3 x1 x3 x4 gg n_ n2_ (n + 1) v5 w_hh = f_X6_copy_L3 x1 x3 x4 gg n_ n2_ n (v5 + 1) (f_X6_store (x3 + v5) (f_X6_at (x1 + v5) gg n_) w_hh n2_) := by rw [f_X6_copy_L3, if_neg c_1]
        rw [e9] at kk
        exact ih (v5 + 1) (f_X6_store (x3 + v5) (f_X6_at (x1 + v5) gg n_) w_hh n2_) hk _ _ hP hD hS ls (lv_sub hl [1, 2, 3, 4, 5, 0] rfl) kk
  obtain ⟨hkL, hk⟩ := hk
  refine L3 FU 0 hh hkL _ _ hP hD hS ls (lv_sub hl [1, 2, 3, 4, 5, 0] rfl) (fun H locs hP hD hS ls hl => ?_)
  have hP : va_P (gD G) vwCl [aI G q_gg n_ gg, aI G q_hh n2_ ((f_X6_copy_L3 x1 x3 x4 gg n_ n2_ FU 0 hh).2)] H := hP
  have hD : va_D A [aI G q_gg n_ gg, aI G q_hh n2_ ((f_X6_copy_L3 x1 x3 x4 gg n_ n2_ FU 0 hh).2)] := hD
  have e9 : f_X6_copy x1 x3 x4 gg hh n_ n2_ = ((f_X6_copy_L3 x1 x3 x4 gg n_ n2_ FU 0 hh).2) := by rw [f_X6_copy]
  exact fv 32 _ _ _ rfl dX6_copy_32 rfl (by rw [e9]; exact hP) (by rw [e9]; exact hD) hS

noncomputable def f_X6_copy_S_L3 (x1 : Int32) (x3 : Int32) (x4 : Int32) (n2_ : Nat) (L_ : List Int32) : Nat → Int32 → (Nat → Int32) → Int32 × (Nat → Int32)
  | 0, v5, w_hh => (v5, w_hh)
  | n + 1, v5, w_hh => (if x4 ≤ v5 then (v5, w_hh) else f_X6_copy_S_L3 x1 x3 x4 n2_ L_ n (v5 + 1) (f_X6_store (x3 + v5) (f_X6_at_S (x1 + v5) L_) w_hh n2_))
noncomputable def k_X6_copy_S_L3 (x1 : Int32) (x3 : Int32) (x4 : Int32) (n2_ : Nat) (L_ : List Int32) : Nat → Int32 → (Nat → Int32) → Prop
  | 0, _, _ => False
  | n + 1, v5, w_hh => (if x4 ≤ v5 then True else k_X6_copy_S_L3 x1 x3 x4 n2_ L_ n (v5 + 1) (f_X6_store (x3 + v5) (f_X6_at_S (x1 + v5) L_) w_hh n2_))
noncomputable def f_X6_copy_S (x1 : Int32) (x3 : Int32) (x4 : Int32) (hh : Nat → Int32) (n2_ : Nat) (L_ : List Int32) : (Nat → Int32) := ((f_X6_copy_S_L3 x1 x3 x4 n2_ L_ FU 0 hh).2)
noncomputable def k_X6_copy_S (x1 : Int32) (x3 : Int32) (x4 : Int32) (hh : Nat → Int32) (n2_ : Nat) (L_ : List Int32) : Prop := (k_X6_copy_S_L3 x1 x3 x4 n2_ L_ FU 0 hh ∧ True)
set_option maxHeartbeats 4000000 in
set_option maxRecDepth 100000 in
theorem c_X6_copy_S (l : Launch) (G : BGT) (n2_ : Nat) (hn_n2_ : n2_ < 2 ^ 31) (k_ : Nat) (C_ N_ : String) (L_ : List Int32) (hk_ : bgS[k_]? = some (C_, N_, L_)) (hL_ : L_.length < 2 ^ 31) (q_hh : Nat) (hh : Nat → Int32) (x1 : Int32) (x3 : Int32) (x4 : Int32) (hk : k_X6_copy_S x1 x3 x4 hh n2_ L_) : WR l yX6_copy wsX6_copy 1 G [aI G q_hh n2_ hh] [aI G q_hh n2_ (f_X6_copy_S x1 x3 x4 hh n2_ L_)] [.ref (gS G k_), .int x1, .ref q_hh, .int x3, .int x4] none := by
  refine WR.ofW (cc := cX6_copy) (maxL := 6) (ret := none) (C := RX6) (by decide) rfl rfl (Nat.le_of_ble_eq_true rfl) ?_
  intro p e s m args below meth c Q ls A hx hb hml hts hown hP hD hS hA hB hl fi fv
  have hl : lv_has ls 6 [(0, .ref (gS G k_)), (1, .int x1), (2, .ref q_hh), (3, .int x3), (4, .int x4)] := hl
  rw [k_X6_copy_S] at hk
  refine lv_iconst (v := 0) hx hb dX6_copy_0 (by decide) ?_
  refine lv_istore (lv' := [(5, .int 0), (0, .ref (gS G k_)), (1, .int x1), (2, .ref q_hh), (3, .int x3), (4, .int x4)]) hx hb dX6_copy_1 hl (by decide) rfl (fun ls hl => ?_)
  have L3 : ∀ (n : Nat) (v5 : Int32) (w_hh : Nat → Int32), k_X6_copy_S_L3 x1 x3 x4 n2_ L_ n v5 w_hh → ∀ (H : Heap) (locs : List Loc), va_P (gD G) vwCl [aI G q_hh n2_ w_hh] H → va_D A [aI G q_hh n2_ w_hh] → va_S A s.heap H locs → ∀ (ls : Array Slot), lv_has ls 6 [(0, .ref (gS G k_)), (1, .int x1), (2, .ref q_hh), (3, .int x3), (4, .int x4), (5, .int v5)] → (∀ (H : Heap) (locs : List Loc), va_P (gD G) vwCl [aI G q_hh n2_ ((f_X6_copy_S_L3 x1 x3 x4 n2_ L_ n v5 w_hh).2)] H → va_D A [aI G q_hh n2_ ((f_X6_copy_S_L3 x1 x3 x4 n2_ L_ n v5 w_hh).2)] → va_S A s.heap H locs → ∀ (ls : Array Slot), lv_has ls 6 [(0, .ref (gS G k_)), (1, .int x1), (2, .ref q_hh), (3, .int x3), (4, .int x4), (5, .int ((f_X6_copy_S_L3 x1 x3 x4 n2_ L_ n v5 w_hh).1))] → W p l e (rm 1) s m args below meth c H locs 0 0 Q (F0 m 32 ls [])) → W p l e (rm 1) s m args below meth c H locs 0 0 Q (F0 m 3 ls []) := by
    intro n
    induction n with
    | zero => intro v5 w_hh hk; exact (hk : False).elim
    | succ n ih =>
      intro v5 w_hh hk H locs hP hD hS ls hl kk
      rw [k_X6_copy_S_L3] at hk
      refine lv_iload hx hb dX6_copy_3 (lv_at hl 5 rfl) ?_
      refine lv_iload hx hb dX6_copy_5 (lv_at hl 4 rfl) ?_
      refine lv_icmp_ge (tgt := 32) hx hb dX6_copy_7 (by decide) (fun c_1 => ?_) (fun c_1 => ?_)
      · rw [if_pos c_1] at hk
        have e9 : f_X6_copy_S_L3 x1 x3 x4 n2_ L_ (n + 1) v5 w_hh = (v5, w_hh) := by rw [f_X6_copy_S_L3, if_pos c_1]
        rw [e9] at kk
        exact kk _ _ hP hD hS ls (lv_sub hl [0, 1, 2, 3, 4, 5] rfl)
      · rw [if_neg c_1] at hk
        refine lv_aload_n hx hb dX6_copy_10 rfl (lv_at hl 2 rfl) ?_
        refine lv_iload_n hx hb dX6_copy_11 rfl (lv_at hl 3 rfl) ?_
        refine lv_iload hx hb dX6_copy_12 (lv_at hl 5 rfl) ?_
        refine lv_iadd hx hb dX6_copy_14 ?_
        refine lv_aload_n hx hb dX6_copy_15 rfl (lv_at hl 0 rfl) ?_
        refine lv_iload_n hx hb dX6_copy_16 rfl (lv_at hl 1 rfl) ?_
        refine lv_iload hx hb dX6_copy_17 (lv_at hl 5 rfl) ?_
        refine lv_iadd hx hb dX6_copy_19 ?_
        refine ro_S (As := [.ref (gS G k_), .int (x1 + v5)]) (rest := [.int (x3 + v5), .ref q_hh]) (c_X6_at_S l G k_ C_ N_ L_ hk_ hL_ (x1 + v5)) [] rfl gX6_copy_X6_at ⟨_, rfl⟩ hd_X6_at dX6_copy_20 rfl rfl (Nat.le_of_ble_eq_true rfl) ⟨Nat.le_of_ble_eq_true rfl, Nat.le_of_ble_eq_true rfl⟩ ⟨Nat.le_refl 0, Nat.le_refl 0⟩ hx hb hml hown hts hB hS hP hl.1 ?_
        refine W.eq (g2 := F0 m 23 ls [.int (f_X6_at_S (x1 + v5) L_), .int (x3 + v5), .ref q_hh]) rfl ?_
        refine wr_S (As := [.ref q_hh, .int (x3 + v5), .int (f_X6_at_S (x1 + v5) L_)]) (rest := []) (wr := []) (wf := [aI G q_hh n2_ (f_X6_store (x3 + v5) (f_X6_at_S (x1 + v5) L_) w_hh n2_)]) (c_X6_store l G n2_ hn_n2_ q_hh w_hh (x3 + v5) (f_X6_at_S (x1 + v5) L_)) [0] [] [0] rfl rfl rfl (by decide) gX6_copy_X6_store ⟨_, rfl⟩ hd_X6_store dX6_copy_23 rfl rfl (Nat.le_of_ble_eq_true rfl) ⟨Nat.le_of_ble_eq_true rfl, Nat.le_of_ble_eq_true rfl⟩ ⟨Nat.le_refl 0, Nat.le_refl 0⟩ hx hb hml hown hts hB hD hS hA hP hl.1 (fun H locs hP hD hS => ?_)
        refine W.eq (g2 := F0 m 26 ls []) rfl ?_
        refine lv_iinc (v := (v5 + 1)) (lv' := [(5, .int (v5 + 1)), (0, .ref (gS G k_)), (1, .int x1), (2, .ref q_hh), (3, .int x3), (4, .int x4)]) hx hb dX6_copy_26 hl (k := 5) rfl (by rfl) (by decide) rfl (fun ls hl => ?_)
        refine lv_goto (tgt := 3) hx hb dX6_copy_29 (by decide) ?_
        have e9 : f_X6_copy_S_L3 x1 x3 x4 n2_ L_ (n + 1) v5 w_hh = f_X6_copy_S_L3 x1 x3 x4 n2_ L_ n (v5 + 1) (f_X6_store (x3 + v5) (f_X6_at_S (x1 + v5) L_) w_hh n2_) := by rw [f_X6_copy_S_L3, if_neg c_1]
        rw [e9] at kk
        exact ih (v5 + 1) (f_X6_store (x3 + v5) (f_X6_at_S (x1 + v5) L_) w_hh n2_) hk _ _ hP hD hS ls (lv_sub hl [1, 2, 3, 4, 5, 0] rfl) kk
  obtain ⟨hkL, hk⟩ := hk
  refine L3 FU 0 hh hkL _ _ hP hD hS ls (lv_sub hl [1, 2, 3, 4, 5, 0] rfl) (fun H locs hP hD hS ls hl => ?_)
  have hP : va_P (gD G) vwCl [aI G q_hh n2_ ((f_X6_copy_S_L3 x1 x3 x4 n2_ L_ FU 0 hh).2)] H := hP
  have hD : va_D A [aI G q_hh n2_ ((f_X6_copy_S_L3 x1 x3 x4 n2_ L_ FU 0 hh).2)] := hD
  have e9 : f_X6_copy_S x1 x3 x4 hh n2_ L_ = ((f_X6_copy_S_L3 x1 x3 x4 n2_ L_ FU 0 hh).2) := by rw [f_X6_copy_S]
  exact fv 32 _ _ _ rfl dX6_copy_32 rfl (by rw [e9]; exact hP) (by rw [e9]; exact hD) hS

noncomputable def f_X6_isParcel (x0 : Int32) : Int32 := (if x0 < 0 then 0 else (if 8 ≤ x0 then 0 else 1))
theorem hd_X6_isParcel : yX6_isParcel.cls ≠ "java/lang/invoke/MethodHandle" ∧ yX6_isParcel.cls ≠ "java/lang/invoke/VarHandle" ∧ (parseMethodDescriptor yX6_isParcel.desc).map (fun d => d.parameters.length) = some 1 := by decide +kernel
set_option maxHeartbeats 4000000 in
set_option maxRecDepth 100000 in
theorem c_X6_isParcel (l : Launch) (G : BGT) (x0 : Int32) : RO l yX6_isParcel wsX6_isParcel 0 G [] [.int x0] (some (.int (f_X6_isParcel x0))) := by
  refine RO.ofW (cc := cX6_isParcel) (maxL := 1) (ret := (some .boolean)) (C := RX6) (by decide) rfl rfl (Nat.le_of_ble_eq_true rfl) ?_
  intro p e s m args below meth c Q ls hx hb hml hts hown hP hB hl fi fl fv
  have hS : va_S (fun _ => False) s.heap s.heap [] := va_S.rf
  have hl : lv_has ls 1 [(0, .int x0)] := hl
  refine lv_iload_n hx hb dX6_isParcel_0 rfl (lv_at hl 0 rfl) ?_
  refine lv_if_lt (tgt := 14) hx hb dX6_isParcel_1 (by decide) (fun c_1 => ?_) (fun c_1 => ?_)
  · refine lv_iconst (v := 0) hx hb dX6_isParcel_14 (by decide) ?_
    exact fi 15 _ 0 .boolean rfl rfl dX6_isParcel_15 (by rw [f_X6_isParcel, if_pos c_1])
  · refine lv_iload_n hx hb dX6_isParcel_4 rfl (lv_at hl 0 rfl) ?_
    refine lv_bipush (v := 8) hx hb dX6_isParcel_5 (by decide) ?_
    refine lv_icmp_ge (tgt := 14) hx hb dX6_isParcel_7 (by decide) (fun c_2 => ?_) (fun c_2 => ?_)
    · refine lv_iconst (v := 0) hx hb dX6_isParcel_14 (by decide) ?_
      exact fi 15 _ 0 .boolean rfl rfl dX6_isParcel_15 (by rw [f_X6_isParcel, if_neg c_1, if_pos c_2])
    · refine lv_iconst (v := 1) hx hb dX6_isParcel_10 (by decide) ?_
      refine lv_goto (tgt := 15) hx hb dX6_isParcel_11 (by decide) ?_
      exact fi 15 _ 1 .boolean rfl rfl dX6_isParcel_15 (by rw [f_X6_isParcel, if_neg c_1, if_neg c_2])

noncomputable def f_X6_isOrder (x0 : Int32) (x1 : Int32) : Int32 := (if x0 < 0 then 0 else (if 3 < x0 then 0 else (if x1 < 0 then 0 else (if 99 < x1 then 0 else 1))))
theorem hd_X6_isOrder : yX6_isOrder.cls ≠ "java/lang/invoke/MethodHandle" ∧ yX6_isOrder.cls ≠ "java/lang/invoke/VarHandle" ∧ (parseMethodDescriptor yX6_isOrder.desc).map (fun d => d.parameters.length) = some 2 := by decide +kernel
set_option maxHeartbeats 4000000 in
set_option maxRecDepth 100000 in
theorem c_X6_isOrder (l : Launch) (G : BGT) (x0 : Int32) (x1 : Int32) : RO l yX6_isOrder wsX6_isOrder 0 G [] [.int x0, .int x1] (some (.int (f_X6_isOrder x0 x1))) := by
  refine RO.ofW (cc := cX6_isOrder) (maxL := 2) (ret := (some .boolean)) (C := RX6) (by decide) rfl rfl (Nat.le_of_ble_eq_true rfl) ?_
  intro p e s m args below meth c Q ls hx hb hml hts hown hP hB hl fi fl fv
  have hS : va_S (fun _ => False) s.heap s.heap [] := va_S.rf
  have hl : lv_has ls 2 [(0, .int x0), (1, .int x1)] := hl
  refine lv_iload_n hx hb dX6_isOrder_0 rfl (lv_at hl 0 rfl) ?_
  refine lv_if_lt (tgt := 23) hx hb dX6_isOrder_1 (by decide) (fun c_1 => ?_) (fun c_1 => ?_)
  · refine lv_iconst (v := 0) hx hb dX6_isOrder_23 (by decide) ?_
    exact fi 24 _ 0 .boolean rfl rfl dX6_isOrder_24 (by rw [f_X6_isOrder, if_pos c_1])
  · refine lv_iload_n hx hb dX6_isOrder_4 rfl (lv_at hl 0 rfl) ?_
    refine lv_iconst (v := 3) hx hb dX6_isOrder_5 (by decide) ?_
    refine lv_icmp_gt (tgt := 23) hx hb dX6_isOrder_6 (by decide) (fun c_2 => ?_) (fun c_2 => ?_)
    · refine lv_iconst (v := 0) hx hb dX6_isOrder_23 (by decide) ?_
      exact fi 24 _ 0 .boolean rfl rfl dX6_isOrder_24 (by rw [f_X6_isOrder, if_neg c_1, if_pos c_2])
    · refine lv_iload_n hx hb dX6_isOrder_9 rfl (lv_at hl 1 rfl) ?_
      refine lv_if_lt (tgt := 23) hx hb dX6_isOrder_10 (by decide) (fun c_3 => ?_) (fun c_3 => ?_)
      · refine lv_iconst (v := 0) hx hb dX6_isOrder_23 (by decide) ?_
        exact fi 24 _ 0 .boolean rfl rfl dX6_isOrder_24 (by rw [f_X6_isOrder, if_neg c_1, if_neg c_2, if_pos c_3])
      · refine lv_iload_n hx hb dX6_isOrder_13 rfl (lv_at hl 1 rfl) ?_
        refine lv_bipush (v := 99) hx hb dX6_isOrder_14 (by decide) ?_
        refine lv_icmp_gt (tgt := 23) hx hb dX6_isOrder_16 (by decide) (fun c_4 => ?_) (fun c_4 => ?_)
        · refine lv_iconst (v := 0) hx hb dX6_isOrder_23 (by decide) ?_
          exact fi 24 _ 0 .boolean rfl rfl dX6_isOrder_24 (by rw [f_X6_isOrder, if_neg c_1, if_neg c_2, if_neg c_3, if_pos c_4])
        · refine lv_iconst (v := 1) hx hb dX6_isOrder_19 (by decide) ?_
          refine lv_goto (tgt := 24) hx hb dX6_isOrder_20 (by decide) ?_
          exact fi 24 _ 1 .boolean rfl rfl dX6_isOrder_24 (by rw [f_X6_isOrder, if_neg c_1, if_neg c_2, if_neg c_3, if_neg c_4])

noncomputable def f_J7_fill_53178_L5 (x1 : Int32) (n_ : Nat) : Nat → Int32 → (Nat → Int32) → Int32 × (Nat → Int32)
  | 0, v2, w_gg => (v2, w_gg)
  | n + 1, v2, w_gg => (if (nI n_) ≤ v2 then (v2, w_gg) else f_J7_fill_53178_L5 x1 n_ n (v2 + 1) (upd w_gg (Int32.toNatClampNeg v2) x1))
noncomputable def k_J7_fill_53178_L5 (x1 : Int32) (n_ : Nat) : Nat → Int32 → (Nat → Int32) → Prop
  | 0, _, _ => False
  | n + 1, v2, w_gg => (if (nI n_) ≤ v2 then True else (vp_in v2 n_ ∧ k_J7_fill_53178_L5 x1 n_ n (v2 + 1) (upd w_gg (Int32.toNatClampNeg v2) x1)))
noncomputable def f_J7_fill_53178 (x1 : Int32) (gg : Nat → Int32) (n_ : Nat) : (Nat → Int32) := ((f_J7_fill_53178_L5 x1 n_ FU 0 gg).2)
noncomputable def k_J7_fill_53178 (x1 : Int32) (gg : Nat → Int32) (n_ : Nat) : Prop := (k_J7_fill_53178_L5 x1 n_ FU 0 gg ∧ True)
theorem hd_J7_fill_53178 : yJ7_fill_53178.cls ≠ "java/lang/invoke/MethodHandle" ∧ yJ7_fill_53178.cls ≠ "java/lang/invoke/VarHandle" ∧ (parseMethodDescriptor yJ7_fill_53178.desc).map (fun d => d.parameters.length) = some 2 := by decide +kernel
set_option maxHeartbeats 4000000 in
set_option maxRecDepth 100000 in
theorem c_J7_fill_53178 (l : Launch) (G : BGT) (n_ : Nat) (hn_n_ : n_ < 2 ^ 31) (q_gg : Nat) (gg : Nat → Int32) (x1 : Int32) (hk : k_J7_fill_53178 x1 gg n_) : WR l yJ7_fill_53178 wsJ7_fill_53178 0 G [aI G q_gg n_ gg] [aI G q_gg n_ (f_J7_fill_53178 x1 gg n_)] [.ref q_gg, .int x1] none := by
  refine WR.ofW (cc := cJ7_fill_53178) (maxL := 4) (ret := none) (C := RJ7) (by decide) rfl rfl (Nat.le_of_ble_eq_true rfl) ?_
  intro p e s m args below meth c Q ls A hx hb hml hts hown hP hD hS hA hB hl fi fv
  have hl : lv_has ls 4 [(0, .ref q_gg), (1, .int x1)] := hl
  rw [k_J7_fill_53178] at hk
  refine lv_iconst (v := 0) hx hb dJ7_fill_53178_0 (by decide) ?_
  refine lv_istore_n (lv' := [(2, .int 0), (0, .ref q_gg), (1, .int x1)]) hx hb dJ7_fill_53178_1 rfl hl (by decide) rfl (fun ls hl => ?_)
  refine lv_aload_n hx hb dJ7_fill_53178_2 rfl (lv_at hl 1 rfl) ?_
  refine va_alen (v := nI n_) hx hb hB.1 hP 0 1 rfl (ty := .int) rfl rfl dJ7_fill_53178_3 ?_
  refine lv_istore_n (lv' := [(3, .int (nI n_)), (2, .int 0), (0, .ref q_gg), (1, .int x1)]) hx hb dJ7_fill_53178_4 rfl hl (by decide) rfl (fun ls hl => ?_)
  have L5 : ∀ (n : Nat) (v2 : Int32) (w_gg : Nat → Int32), k_J7_fill_53178_L5 x1 n_ n v2 w_gg → ∀ (H : Heap) (locs : List Loc), va_P (gD G) vwCl [aI G q_gg n_ w_gg] H → va_D A [aI G q_gg n_ w_gg] → va_S A s.heap H locs → ∀ (ls : Array Slot), lv_has ls 4 [(0, .ref q_gg), (1, .int x1), (2, .int v2), (3, .int (nI n_))] → (∀ (H : Heap) (locs : List Loc), va_P (gD G) vwCl [aI G q_gg n_ ((f_J7_fill_53178_L5 x1 n_ n v2 w_gg).2)] H → va_D A [aI G q_gg n_ ((f_J7_fill_53178_L5 x1 n_ n v2 w_gg).2)] → va_S A s.heap H locs → ∀ (ls : Array Slot), lv_has ls 4 [(0, .ref q_gg), (1, .int x1), (2, .int ((f_J7_fill_53178_L5 x1 n_ n v2 w_gg).1)), (3, .int (nI n_))] → W p l e (rm 0) s m args below meth c H locs 0 0 Q (F0 m 20 ls [])) → W p l e (rm 0) s m args below meth c H locs 0 0 Q (F0 m 5 ls []) := by
    intro n
    induction n with
    | zero => intro v2 w_gg hk; exact (hk : False).elim
    | succ n ih =>
      intro v2 w_gg hk H locs hP hD hS ls hl kk
      rw [k_J7_fill_53178_L5] at hk
      refine lv_iload_n hx hb dJ7_fill_53178_5 rfl (lv_at hl 2 rfl) ?_
      refine lv_iload_n hx hb dJ7_fill_53178_6 rfl (lv_at hl 3 rfl) ?_
      refine lv_icmp_ge (tgt := 20) hx hb dJ7_fill_53178_7 (by decide) (fun c_1 => ?_) (fun c_1 => ?_)
      · rw [if_pos c_1] at hk
        have e9 : f_J7_fill_53178_L5 x1 n_ (n + 1) v2 w_gg = (v2, w_gg) := by rw [f_J7_fill_53178_L5, if_pos c_1]
        rw [e9] at kk
        exact kk _ _ hP hD hS ls (lv_sub hl [0, 1, 2, 3] rfl)
      · rw [if_neg c_1] at hk
        refine lv_aload_n hx hb dJ7_fill_53178_10 rfl (lv_at hl 0 rfl) ?_
        refine lv_iload_n hx hb dJ7_fill_53178_11 rfl (lv_at hl 2 rfl) ?_
        refine lv_iload_n hx hb dJ7_fill_53178_12 rfl (lv_at hl 1 rfl) ?_
        obtain ⟨o_2, hk⟩ := hk
        refine va_iast hx hb hB.1 hP hD hS 0 1 rfl rfl o_2 dJ7_fill_53178_13 (fun H locs hP hD hS => ?_)
        have hP : va_P (gD G) vwCl [aI G q_gg n_ (upd w_gg (Int32.toNatClampNeg v2) x1)] H := hP
        have hD : va_D A [aI G q_gg n_ (upd w_gg (Int32.toNatClampNeg v2) x1)] := hD
        refine lv_iinc (v := (v2 + 1)) (lv' := [(2, .int (v2 + 1)), (0, .ref q_gg), (1, .int x1), (3, .int (nI n_))]) hx hb dJ7_fill_53178_14 hl (k := 2) rfl (by rfl) (by decide) rfl (fun ls hl => ?_)
        refine lv_goto (tgt := 5) hx hb dJ7_fill_53178_17 (by decide) ?_
        have e9 : f_J7_fill_53178_L5 x1 n_ (n + 1) v2 w_gg = f_J7_fill_53178_L5 x1 n_ n (v2 + 1) (upd w_gg (Int32.toNatClampNeg v2) x1) := by rw [f_J7_fill_53178_L5, if_neg c_1]
        rw [e9] at kk
        exact ih (v2 + 1) (upd w_gg (Int32.toNatClampNeg v2) x1) hk _ _ hP hD hS ls (lv_sub hl [1, 2, 0, 3] rfl) kk
  obtain ⟨hkL, hk⟩ := hk
  refine L5 FU 0 gg hkL _ _ hP hD hS ls (lv_sub hl [2, 3, 1, 0] rfl) (fun H locs hP hD hS ls hl => ?_)
  have hP : va_P (gD G) vwCl [aI G q_gg n_ ((f_J7_fill_53178_L5 x1 n_ FU 0 gg).2)] H := hP
  have hD : va_D A [aI G q_gg n_ ((f_J7_fill_53178_L5 x1 n_ FU 0 gg).2)] := hD
  have e9 : f_J7_fill_53178 x1 gg n_ = ((f_J7_fill_53178_L5 x1 n_ FU 0 gg).2) := by rw [f_J7_fill_53178]
  exact fv 20 _ _ _ rfl dJ7_fill_53178_20 rfl (by rw [e9]; exact hP) (by rw [e9]; exact hD) hS

noncomputable def f_J6_numberOfTrailingZeros_0f7a4 (x0 : Int32) : Int32 := (if 0 < ((x0 ^^^ (-1)) &&& (x0 - 1)) then (if ((x0 ^^^ (-1)) &&& (x0 - 1)) ≤ 65536 then (if ((x0 ^^^ (-1)) &&& (x0 - 1)) ≤ 256 then (if ((x0 ^^^ (-1)) &&& (x0 - 1)) ≤ 16 then (if ((x0 ^^^ (-1)) &&& (x0 - 1)) ≤ 4 then (1 + (jushr ((x0 ^^^ (-1)) &&& (x0 - 1)) 1)) else ((1 + 2) + (jushr (jushr ((x0 ^^^ (-1)) &&& (x0 - 1)) 2) 1))) else (if (jushr ((x0 ^^^ (-1)) &&& (x0 - 1)) 4) ≤ 4 then ((1 + 4) + (jushr (jushr ((x0 ^^^ (-1)) &&& (x0 - 1)) 4) 1)) else (((1 + 4) + 2) + (jushr (jushr (jushr ((x0 ^^^ (-1)) &&& (x0 - 1)) 4) 2) 1)))) else (if (jushr ((x0 ^^^ (-1)) &&& (x0 - 1)) 8) ≤ 16 then (if (jushr ((x0 ^^^ (-1)) &&& (x0 - 1)) 8) ≤ 4 then ((1 + 8) + (jushr (jushr ((x0 ^^^ (-1)) &&& (x0 - 1)) 8) 1)) else (((1 + 8) + 2) + (jushr (jushr (jushr ((x0 ^^^ (-1)) &&& (x0 - 1)) 8) 2) 1))) else (if (jushr (jushr ((x0 ^^^ (-1)) &&& (x0 - 1)) 8) 4) ≤ 4 then (((1 + 8) + 4) + (jushr (jushr (jushr ((x0 ^^^ (-1)) &&& (x0 - 1)) 8) 4) 1)) else ((((1 + 8) + 4) + 2) + (jushr (jushr (jushr (jushr ((x0 ^^^ (-1)) &&& (x0 - 1)) 8) 4) 2) 1))))) else (if (jushr ((x0 ^^^ (-1)) &&& (x0 - 1)) 16) ≤ 256 then (if (jushr ((x0 ^^^ (-1)) &&& (x0 - 1)) 16) ≤ 16 then (if (jushr ((x0 ^^^ (-1)) &&& (x0 - 1)) 16) ≤ 4 then ((1 + 16) + (jushr (jushr ((x0 ^^^ (-1)) &&& (x0 - 1)) 16) 1)) else (((1 + 16) + 2) + (jushr (jushr (jushr ((x0 ^^^ (-1)) &&& (x0 - 1)) 16) 2) 1))) else (if (jushr (jushr ((x0 ^^^ (-1)) &&& (x0 - 1)) 16) 4) ≤ 4 then (((1 + 16) + 4) + (jushr (jushr (jushr ((x0 ^^^ (-1)) &&& (x0 - 1)) 16) 4) 1)) else ((((1 + 16) + 4) + 2) + (jushr (jushr (jushr (jushr ((x0 ^^^ (-1)) &&& (x0 - 1)) 16) 4) 2) 1)))) else (if (jushr (jushr ((x0 ^^^ (-1)) &&& (x0 - 1)) 16) 8) ≤ 16 then (if (jushr (jushr ((x0 ^^^ (-1)) &&& (x0 - 1)) 16) 8) ≤ 4 then (((1 + 16) + 8) + (jushr (jushr (jushr ((x0 ^^^ (-1)) &&& (x0 - 1)) 16) 8) 1)) else ((((1 + 16) + 8) + 2) + (jushr (jushr (jushr (jushr ((x0 ^^^ (-1)) &&& (x0 - 1)) 16) 8) 2) 1))) else (if (jushr (jushr (jushr ((x0 ^^^ (-1)) &&& (x0 - 1)) 16) 8) 4) ≤ 4 then ((((1 + 16) + 8) + 4) + (jushr (jushr (jushr (jushr ((x0 ^^^ (-1)) &&& (x0 - 1)) 16) 8) 4) 1)) else (((((1 + 16) + 8) + 4) + 2) + (jushr (jushr (jushr (jushr (jushr ((x0 ^^^ (-1)) &&& (x0 - 1)) 16) 8) 4) 2) 1)))))) else (((x0 ^^^ (-1)) &&& (x0 - 1)) &&& 32))
theorem hd_J6_numberOfTrailingZeros_0f7a4 : yJ6_numberOfTrailingZeros_0f7a4.cls ≠ "java/lang/invoke/MethodHandle" ∧ yJ6_numberOfTrailingZeros_0f7a4.cls ≠ "java/lang/invoke/VarHandle" ∧ (parseMethodDescriptor yJ6_numberOfTrailingZeros_0f7a4.desc).map (fun d => d.parameters.length) = some 1 := by decide +kernel
set_option maxHeartbeats 4000000 in
set_option maxRecDepth 100000 in
theorem c_J6_numberOfTrailingZeros_0f7a4 (l : Launch) (G : BGT) (x0 : Int32) : RO l yJ6_numberOfTrailingZeros_0f7a4 wsJ6_numberOfTrailingZeros_0f7a4 0 G [] [.int x0] (some (.int (f_J6_numberOfTrailingZeros_0f7a4 x0))) := by
  refine RO.ofW (cc := cJ6_numberOfTrailingZeros_0f7a4) (maxL := 2) (ret := (some .int)) (C := RJ6) (by decide) rfl rfl (Nat.le_of_ble_eq_true rfl) ?_
  intro p e s m args below meth c Q ls hx hb hml hts hown hP hB hl fi fl fv
  have hS : va_S (fun _ => False) s.heap s.heap [] := va_S.rf
  have hl : lv_has ls 2 [(0, .int x0)] := hl
  have t_0 := hts (.constant RJ6 264 (65536)) (by decide +kernel)
  refine lv_iload_n hx hb dJ6_numberOfTrailingZeros_0f7a4_0 rfl (lv_at hl 0 rfl) ?_
  refine lv_iconst (v := (-1)) hx hb dJ6_numberOfTrailingZeros_0f7a4_1 (by decide) ?_
  refine lv_ixor hx hb dJ6_numberOfTrailingZeros_0f7a4_2 ?_
  refine lv_iload_n hx hb dJ6_numberOfTrailingZeros_0f7a4_3 rfl (lv_at hl 0 rfl) ?_
  refine lv_iconst (v := 1) hx hb dJ6_numberOfTrailingZeros_0f7a4_4 (by decide) ?_
  refine lv_isub hx hb dJ6_numberOfTrailingZeros_0f7a4_5 ?_
  refine lv_iand hx hb dJ6_numberOfTrailingZeros_0f7a4_6 ?_
  refine lv_istore_n (lv' := [(0, .int ((x0 ^^^ (-1)) &&& (x0 - 1)))]) hx hb dJ6_numberOfTrailingZeros_0f7a4_7 rfl hl (by decide) rfl (fun ls hl => ?_)
  refine lv_iload_n hx hb dJ6_numberOfTrailingZeros_0f7a4_8 rfl (lv_at hl 0 rfl) ?_
  refine lv_if_gt (tgt := 17) hx hb dJ6_numberOfTrailingZeros_0f7a4_9 (by decide) (fun c_1 => ?_) (fun c_1 => ?_)
  · refine lv_iconst (v := 1) hx hb dJ6_numberOfTrailingZeros_0f7a4_17 (by decide) ?_
    refine lv_istore_n (lv' := [(1, .int 1), (0, .int ((x0 ^^^ (-1)) &&& (x0 - 1)))]) hx hb dJ6_numberOfTrailingZeros_0f7a4_18 rfl hl (by decide) rfl (fun ls hl => ?_)
    refine lv_iload_n hx hb dJ6_numberOfTrailingZeros_0f7a4_19 rfl (lv_at hl 1 rfl) ?_
    refine lv_ldcw (v := 65536) hx hb hown t_0 dJ6_numberOfTrailingZeros_0f7a4_20 ?_
    refine lv_icmp_le (tgt := 34) hx hb dJ6_numberOfTrailingZeros_0f7a4_23 (by decide) (fun c_2 => ?_) (fun c_2 => ?_)
    · refine lv_iload_n hx hb dJ6_numberOfTrailingZeros_0f7a4_34 rfl (lv_at hl 1 rfl) ?_
      refine lv_sipush (v := 256) hx hb dJ6_numberOfTrailingZeros_0f7a4_35 (by decide) ?_
      refine lv_icmp_le (tgt := 49) hx hb dJ6_numberOfTrailingZeros_0f7a4_38 (by decide) (fun c_3 => ?_) (fun c_3 => ?_)
      · refine lv_iload_n hx hb dJ6_numberOfTrailingZeros_0f7a4_49 rfl (lv_at hl 1 rfl) ?_
        refine lv_bipush (v := 16) hx hb dJ6_numberOfTrailingZeros_0f7a4_50 (by decide) ?_
        refine lv_icmp_le (tgt := 62) hx hb dJ6_numberOfTrailingZeros_0f7a4_52 (by decide) (fun c_4 => ?_) (fun c_4 => ?_)
        · refine lv_iload_n hx hb dJ6_numberOfTrailingZeros_0f7a4_62 rfl (lv_at hl 1 rfl) ?_
          refine lv_iconst (v := 4) hx hb dJ6_numberOfTrailingZeros_0f7a4_63 (by decide) ?_
          refine lv_icmp_le (tgt := 74) hx hb dJ6_numberOfTrailingZeros_0f7a4_64 (by decide) (fun c_5 => ?_) (fun c_5 => ?_)
          · refine lv_iload_n hx hb dJ6_numberOfTrailingZeros_0f7a4_74 rfl (lv_at hl 0 rfl) ?_
            refine lv_iload_n hx hb dJ6_numberOfTrailingZeros_0f7a4_75 rfl (lv_at hl 1 rfl) ?_
            refine lv_iconst (v := 1) hx hb dJ6_numberOfTrailingZeros_0f7a4_76 (by decide) ?_
            refine lv_iushr (v := (jushr ((x0 ^^^ (-1)) &&& (x0 - 1)) 1)) hx hb dJ6_numberOfTrailingZeros_0f7a4_77 rfl ?_
            refine lv_iadd hx hb dJ6_numberOfTrailingZeros_0f7a4_78 ?_
            exact fi 79 _ (1 + (jushr ((x0 ^^^ (-1)) &&& (x0 - 1)) 1)) .int rfl rfl dJ6_numberOfTrailingZeros_0f7a4_79 (by rw [f_J6_numberOfTrailingZeros_0f7a4, if_pos c_1, if_pos c_2, if_pos c_3, if_pos c_4, if_pos c_5])
          · refine lv_iinc (v := (1 + 2)) (lv' := [(1, .int (1 + 2)), (0, .int ((x0 ^^^ (-1)) &&& (x0 - 1)))]) hx hb dJ6_numberOfTrailingZeros_0f7a4_67 hl (k := 0) rfl (by rfl) (by decide) rfl (fun ls hl => ?_)
            refine lv_iload_n hx hb dJ6_numberOfTrailingZeros_0f7a4_70 rfl (lv_at hl 1 rfl) ?_
            refine lv_iconst (v := 2) hx hb dJ6_numberOfTrailingZeros_0f7a4_71 (by decide) ?_
            refine lv_iushr (v := (jushr ((x0 ^^^ (-1)) &&& (x0 - 1)) 2)) hx hb dJ6_numberOfTrailingZeros_0f7a4_72 rfl ?_
            refine lv_istore_n (lv' := [(0, .int (jushr ((x0 ^^^ (-1)) &&& (x0 - 1)) 2)), (1, .int (1 + 2))]) hx hb dJ6_numberOfTrailingZeros_0f7a4_73 rfl hl (by decide) rfl (fun ls hl => ?_)
            refine lv_iload_n hx hb dJ6_numberOfTrailingZeros_0f7a4_74 rfl (lv_at hl 1 rfl) ?_
            refine lv_iload_n hx hb dJ6_numberOfTrailingZeros_0f7a4_75 rfl (lv_at hl 0 rfl) ?_
            refine lv_iconst (v := 1) hx hb dJ6_numberOfTrailingZeros_0f7a4_76 (by decide) ?_
            refine lv_iushr (v := (jushr (jushr ((x0 ^^^ (-1)) &&& (x0 - 1)) 2) 1)) hx hb dJ6_numberOfTrailingZeros_0f7a4_77 rfl ?_
            refine lv_iadd hx hb dJ6_numberOfTrailingZeros_0f7a4_78 ?_
            exact fi 79 _ ((1 + 2) + (jushr (jushr ((x0 ^^^ (-1)) &&& (x0 - 1)) 2) 1)) .int rfl rfl dJ6_numberOfTrailingZeros_0f7a4_79 (by rw [f_J6_numberOfTrailingZeros_0f7a4, if_pos c_1, if_pos c_2, if_pos c_3, if_pos c_4, if_neg c_5])
        · refine lv_iinc (v := (1 + 4)) (lv' := [(1, .int (1 + 4)), (0, .int ((x0 ^^^ (-1)) &&& (x0 - 1)))]) hx hb dJ6_numberOfTrailingZeros_0f7a4_55 hl (k := 0) rfl (by rfl) (by decide) rfl (fun ls hl => ?_)
          refine lv_iload_n hx hb dJ6_numberOfTrailingZeros_0f7a4_58 rfl (lv_at hl 1 rfl) ?_
          refine lv_iconst (v := 4) hx hb dJ6_numberOfTrailingZeros_0f7a4_59 (by decide) ?_
          refine lv_iushr (v := (jushr ((x0 ^^^ (-1)) &&& (x0 - 1)) 4)) hx hb dJ6_numberOfTrailingZeros_0f7a4_60 rfl ?_
          refine lv_istore_n (lv' := [(0, .int (jushr ((x0 ^^^ (-1)) &&& (x0 - 1)) 4)), (1, .int (1 + 4))]) hx hb dJ6_numberOfTrailingZeros_0f7a4_61 rfl hl (by decide) rfl (fun ls hl => ?_)
          refine lv_iload_n hx hb dJ6_numberOfTrailingZeros_0f7a4_62 rfl (lv_at hl 0 rfl) ?_
          refine lv_iconst (v := 4) hx hb dJ6_numberOfTrailingZeros_0f7a4_63 (by decide) ?_
          refine lv_icmp_le (tgt := 74) hx hb dJ6_numberOfTrailingZeros_0f7a4_64 (by decide) (fun c_6 => ?_) (fun c_6 => ?_)
          · refine lv_iload_n hx hb dJ6_numberOfTrailingZeros_0f7a4_74 rfl (lv_at hl 1 rfl) ?_
            refine lv_iload_n hx hb dJ6_numberOfTrailingZeros_0f7a4_75 rfl (lv_at hl 0 rfl) ?_
            refine lv_iconst (v := 1) hx hb dJ6_numberOfTrailingZeros_0f7a4_76 (by decide) ?_
            refine lv_iushr (v := (jushr (jushr ((x0 ^^^ (-1)) &&& (x0 - 1)) 4) 1)) hx hb dJ6_numberOfTrailingZeros_0f7a4_77 rfl ?_
            refine lv_iadd hx hb dJ6_numberOfTrailingZeros_0f7a4_78 ?_
            exact fi 79 _ ((1 + 4) + (jushr (jushr ((x0 ^^^ (-1)) &&& (x0 - 1)) 4) 1)) .int rfl rfl dJ6_numberOfTrailingZeros_0f7a4_79 (by rw [f_J6_numberOfTrailingZeros_0f7a4, if_pos c_1, if_pos c_2, if_pos c_3, if_neg c_4, if_pos c_6])
          · refine lv_iinc (v := ((1 + 4) + 2)) (lv' := [(1, .int ((1 + 4) + 2)), (0, .int (jushr ((x0 ^^^ (-1)) &&& (x0 - 1)) 4))]) hx hb dJ6_numberOfTrailingZeros_0f7a4_67 hl (k := 1) rfl (by rfl) (by decide) rfl (fun ls hl => ?_)
            refine lv_iload_n hx hb dJ6_numberOfTrailingZeros_0f7a4_70 rfl (lv_at hl 1 rfl) ?_
            refine lv_iconst (v := 2) hx hb dJ6_numberOfTrailingZeros_0f7a4_71 (by decide) ?_
            refine lv_iushr (v := (jushr (jushr ((x0 ^^^ (-1)) &&& (x0 - 1)) 4) 2)) hx hb dJ6_numberOfTrailingZeros_0f7a4_72 rfl ?_
            refine lv_istore_n (lv' := [(0, .int (jushr (jushr ((x0 ^^^ (-1)) &&& (x0 - 1)) 4) 2)), (1, .int ((1 + 4) + 2))]) hx hb dJ6_numberOfTrailingZeros_0f7a4_73 rfl hl (by decide) rfl (fun ls hl => ?_)
            refine lv_iload_n hx hb dJ6_numberOfTrailingZeros_0f7a4_74 rfl (lv_at hl 1 rfl) ?_
            refine lv_iload_n hx hb dJ6_numberOfTrailingZeros_0f7a4_75 rfl (lv_at hl 0 rfl) ?_
            refine lv_iconst (v := 1) hx hb dJ6_numberOfTrailingZeros_0f7a4_76 (by decide) ?_
            refine lv_iushr (v := (jushr (jushr (jushr ((x0 ^^^ (-1)) &&& (x0 - 1)) 4) 2) 1)) hx hb dJ6_numberOfTrailingZeros_0f7a4_77 rfl ?_
            refine lv_iadd hx hb dJ6_numberOfTrailingZeros_0f7a4_78 ?_
            exact fi 79 _ (((1 + 4) + 2) + (jushr (jushr (jushr ((x0 ^^^ (-1)) &&& (x0 - 1)) 4) 2) 1)) .int rfl rfl dJ6_numberOfTrailingZeros_0f7a4_79 (by rw [f_J6_numberOfTrailingZeros_0f7a4, if_pos c_1, if_pos c_2, if_pos c_3, if_neg c_4, if_neg c_6])
      · refine lv_iinc (v := (1 + 8)) (lv' := [(1, .int (1 + 8)), (0, .int ((x0 ^^^ (-1)) &&& (x0 - 1)))]) hx hb dJ6_numberOfTrailingZeros_0f7a4_41 hl (k := 0) rfl (by rfl) (by decide) rfl (fun ls hl => ?_)
        refine lv_iload_n hx hb dJ6_numberOfTrailingZeros_0f7a4_44 rfl (lv_at hl 1 rfl) ?_
        refine lv_bipush (v := 8) hx hb dJ6_numberOfTrailingZeros_0f7a4_45 (by decide) ?_
        refine lv_iushr (v := (jushr ((x0 ^^^ (-1)) &&& (x0 - 1)) 8)) hx hb dJ6_numberOfTrailingZeros_0f7a4_47 rfl ?_
        refine lv_istore_n (lv' := [(0, .int (jushr ((x0 ^^^ (-1)) &&& (x0 - 1)) 8)), (1, .int (1 + 8))]) hx hb dJ6_numberOfTrailingZeros_0f7a4_48 rfl hl (by decide) rfl (fun ls hl => ?_)
        refine lv_iload_n hx hb dJ6_numberOfTrailingZeros_0f7a4_49 rfl (lv_at hl 0 rfl) ?_
        refine lv_bipush (v := 16) hx hb dJ6_numberOfTrailingZeros_0f7a4_50 (by decide) ?_
        refine lv_icmp_le (tgt := 62) hx hb dJ6_numberOfTrailingZeros_0f7a4_52 (by decide) (fun c_7 => ?_) (fun c_7 => ?_)
        · refine lv_iload_n hx hb dJ6_numberOfTrailingZeros_0f7a4_62 rfl (lv_at hl 0 rfl) ?_
          refine lv_iconst (v := 4) hx hb dJ6_numberOfTrailingZeros_0f7a4_63 (by decide) ?_
          refine lv_icmp_le (tgt := 74) hx hb dJ6_numberOfTrailingZeros_0f7a4_64 (by decide) (fun c_8 => ?_) (fun c_8 => ?_)
          · refine lv_iload_n hx hb dJ6_numberOfTrailingZeros_0f7a4_74 rfl (lv_at hl 1 rfl) ?_
            refine lv_iload_n hx hb dJ6_numberOfTrailingZeros_0f7a4_75 rfl (lv_at hl 0 rfl) ?_
            refine lv_iconst (v := 1) hx hb dJ6_numberOfTrailingZeros_0f7a4_76 (by decide) ?_
            refine lv_iushr (v := (jushr (jushr ((x0 ^^^ (-1)) &&& (x0 - 1)) 8) 1)) hx hb dJ6_numberOfTrailingZeros_0f7a4_77 rfl ?_
            refine lv_iadd hx hb dJ6_numberOfTrailingZeros_0f7a4_78 ?_
            exact fi 79 _ ((1 + 8) + (jushr (jushr ((x0 ^^^ (-1)) &&& (x0 - 1)) 8) 1)) .int rfl rfl dJ6_numberOfTrailingZeros_0f7a4_79 (by rw [f_J6_numberOfTrailingZeros_0f7a4, if_pos c_1, if_pos c_2, if_neg c_3, if_pos c_7, if_pos c_8])
          · refine lv_iinc (v := ((1 + 8) + 2)) (lv' := [(1, .int ((1 + 8) + 2)), (0, .int (jushr ((x0 ^^^ (-1)) &&& (x0 - 1)) 8))]) hx hb dJ6_numberOfTrailingZeros_0f7a4_67 hl (k := 1) rfl (by rfl) (by decide) rfl (fun ls hl => ?_)
            refine lv_iload_n hx hb dJ6_numberOfTrailingZeros_0f7a4_70 rfl (lv_at hl 1 rfl) ?_
            refine lv_iconst (v := 2) hx hb dJ6_numberOfTrailingZeros_0f7a4_71 (by decide) ?_
            refine lv_iushr (v := (jushr (jushr ((x0 ^^^ (-1)) &&& (x0 - 1)) 8) 2)) hx hb dJ6_numberOfTrailingZeros_0f7a4_72 rfl ?_
            refine lv_istore_n (lv' := [(0, .int (jushr (jushr ((x0 ^^^ (-1)) &&& (x0 - 1)) 8) 2)), (1, .int ((1 + 8) + 2))]) hx hb dJ6_numberOfTrailingZeros_0f7a4_73 rfl hl (by decide) rfl (fun ls hl => ?_)
            refine lv_iload_n hx hb dJ6_numberOfTrailingZeros_0f7a4_74 rfl (lv_at hl 1 rfl) ?_
            refine lv_iload_n hx hb dJ6_numberOfTrailingZeros_0f7a4_75 rfl (lv_at hl 0 rfl) ?_
            refine lv_iconst (v := 1) hx hb dJ6_numberOfTrailingZeros_0f7a4_76 (by decide) ?_
            refine lv_iushr (v := (jushr (jushr (jushr ((x0 ^^^ (-1)) &&& (x0 - 1)) 8) 2) 1)) hx hb dJ6_numberOfTrailingZeros_0f7a4_77 rfl ?_
            refine lv_iadd hx hb dJ6_numberOfTrailingZeros_0f7a4_78 ?_
            exact fi 79 _ (((1 + 8) + 2) + (jushr (jushr (jushr ((x0 ^^^ (-1)) &&& (x0 - 1)) 8) 2) 1)) .int rfl rfl dJ6_numberOfTrailingZeros_0f7a4_79 (by rw [f_J6_numberOfTrailingZeros_0f7a4, if_pos c_1, if_pos c_2, if_neg c_3, if_pos c_7, if_neg c_8])
        · refine lv_iinc (v := ((1 + 8) + 4)) (lv' := [(1, .int ((1 + 8) + 4)), (0, .int (jushr ((x0 ^^^ (-1)) &&& (x0 - 1)) 8))]) hx hb dJ6_numberOfTrailingZeros_0f7a4_55 hl (k := 1) rfl (by rfl) (by decide) rfl (fun ls hl => ?_)
          refine lv_iload_n hx hb dJ6_numberOfTrailingZeros_0f7a4_58 rfl (lv_at hl 1 rfl) ?_
          refine lv_iconst (v := 4) hx hb dJ6_numberOfTrailingZeros_0f7a4_59 (by decide) ?_
          refine lv_iushr (v := (jushr (jushr ((x0 ^^^ (-1)) &&& (x0 - 1)) 8) 4)) hx hb dJ6_numberOfTrailingZeros_0f7a4_60 rfl ?_
          refine lv_istore_n (lv' := [(0, .int (jushr (jushr ((x0 ^^^ (-1)) &&& (x0 - 1)) 8) 4)), (1, .int ((1 + 8) + 4))]) hx hb dJ6_numberOfTrailingZeros_0f7a4_61 rfl hl (by decide) rfl (fun ls hl => ?_)
          refine lv_iload_n hx hb dJ6_numberOfTrailingZeros_0f7a4_62 rfl (lv_at hl 0 rfl) ?_
          refine lv_iconst (v := 4) hx hb dJ6_numberOfTrailingZeros_0f7a4_63 (by decide) ?_
          refine lv_icmp_le (tgt := 74) hx hb dJ6_numberOfTrailingZeros_0f7a4_64 (by decide) (fun c_9 => ?_) (fun c_9 => ?_)
          · refine lv_iload_n hx hb dJ6_numberOfTrailingZeros_0f7a4_74 rfl (lv_at hl 1 rfl) ?_
            refine lv_iload_n hx hb dJ6_numberOfTrailingZeros_0f7a4_75 rfl (lv_at hl 0 rfl) ?_
            refine lv_iconst (v := 1) hx hb dJ6_numberOfTrailingZeros_0f7a4_76 (by decide) ?_
            refine lv_iushr (v := (jushr (jushr (jushr ((x0 ^^^ (-1)) &&& (x0 - 1)) 8) 4) 1)) hx hb dJ6_numberOfTrailingZeros_0f7a4_77 rfl ?_
            refine lv_iadd hx hb dJ6_numberOfTrailingZeros_0f7a4_78 ?_
            exact fi 79 _ (((1 + 8) + 4) + (jushr (jushr (jushr ((x0 ^^^ (-1)) &&& (x0 - 1)) 8) 4) 1)) .int rfl rfl dJ6_numberOfTrailingZeros_0f7a4_79 (by rw [f_J6_numberOfTrailingZeros_0f7a4, if_pos c_1, if_pos c_2, if_neg c_3, if_neg c_7, if_pos c_9])
          · refine lv_iinc (v := (((1 + 8) + 4) + 2)) (lv' := [(1, .int (((1 + 8) + 4) + 2)), (0, .int (jushr (jushr ((x0 ^^^ (-1)) &&& (x0 - 1)) 8) 4))]) hx hb dJ6_numberOfTrailingZeros_0f7a4_67 hl (k := 1) rfl (by rfl) (by decide) rfl (fun ls hl => ?_)
            refine lv_iload_n hx hb dJ6_numberOfTrailingZeros_0f7a4_70 rfl (lv_at hl 1 rfl) ?_
            refine lv_iconst (v := 2) hx hb dJ6_numberOfTrailingZeros_0f7a4_71 (by decide) ?_
            refine lv_iushr (v := (jushr (jushr (jushr ((x0 ^^^ (-1)) &&& (x0 - 1)) 8) 4) 2)) hx hb dJ6_numberOfTrailingZeros_0f7a4_72 rfl ?_
            refine lv_istore_n (lv' := [(0, .int (jushr (jushr (jushr ((x0 ^^^ (-1)) &&& (x0 - 1)) 8) 4) 2)), (1, .int (((1 + 8) + 4) + 2))]) hx hb dJ6_numberOfTrailingZeros_0f7a4_73 rfl hl (by decide) rfl (fun ls hl => ?_)
            refine lv_iload_n hx hb dJ6_numberOfTrailingZeros_0f7a4_74 rfl (lv_at hl 1 rfl) ?_
            refine lv_iload_n hx hb dJ6_numberOfTrailingZeros_0f7a4_75 rfl (lv_at hl 0 rfl) ?_
            refine lv_iconst (v := 1) hx hb dJ6_numberOfTrailingZeros_0f7a4_76 (by decide) ?_
            refine lv_iushr (v := (jushr (jushr (jushr (jushr ((x0 ^^^ (-1)) &&& (x0 - 1)) 8) 4) 2) 1)) hx hb dJ6_numberOfTrailingZeros_0f7a4_77 rfl ?_
            refine lv_iadd hx hb dJ6_numberOfTrailingZeros_0f7a4_78 ?_
            exact fi 79 _ ((((1 + 8) + 4) + 2) + (jushr (jushr (jushr (jushr ((x0 ^^^ (-1)) &&& (x0 - 1)) 8) 4) 2) 1)) .int rfl rfl dJ6_numberOfTrailingZeros_0f7a4_79 (by rw [f_J6_numberOfTrailingZeros_0f7a4, if_pos c_1, if_pos c_2, if_neg c_3, if_neg c_7, if_neg c_9])
    · refine lv_iinc (v := (1 + 16)) (lv' := [(1, .int (1 + 16)), (0, .int ((x0 ^^^ (-1)) &&& (x0 - 1)))]) hx hb dJ6_numberOfTrailingZeros_0f7a4_26 hl (k := 0) rfl (by rfl) (by decide) rfl (fun ls hl => ?_)
      refine lv_iload_n hx hb dJ6_numberOfTrailingZeros_0f7a4_29 rfl (lv_at hl 1 rfl) ?_
      refine lv_bipush (v := 16) hx hb dJ6_numberOfTrailingZeros_0f7a4_30 (by decide) ?_
      refine lv_iushr (v := (jushr ((x0 ^^^ (-1)) &&& (x0 - 1)) 16)) hx hb dJ6_numberOfTrailingZeros_0f7a4_32 rfl ?_
      refine lv_istore_n (lv' := [(0, .int (jushr ((x0 ^^^ (-1)) &&& (x0 - 1)) 16)), (1, .int (1 + 16))]) hx hb dJ6_numberOfTrailingZeros_0f7a4_33 rfl hl (by decide) rfl (fun ls hl => ?_)
      refine lv_iload_n hx hb dJ6_numberOfTrailingZeros_0f7a4_34 rfl (lv_at hl 0 rfl) ?_
      refine lv_sipush (v := 256) hx hb dJ6_numberOfTrailingZeros_0f7a4_35 (by decide) ?_
      refine lv_icmp_le (tgt := 49) hx hb dJ6_numberOfTrailingZeros_0f7a4_38 (by decide) (fun c_10 => ?_) (fun c_10 => ?_)
      · refine lv_iload_n hx hb dJ6_numberOfTrailingZeros_0f7a4_49 rfl (lv_at hl 0 rfl) ?_
        refine lv_bipush (v := 16) hx hb dJ6_numberOfTrailingZeros_0f7a4_50 (by decide) ?_
        refine lv_icmp_le (tgt := 62) hx hb dJ6_numberOfTrailingZeros_0f7a4_52 (by decide) (fun c_11 => ?_) (fun c_11 => ?_)
        · refine lv_iload_n hx hb dJ6_numberOfTrailingZeros_0f7a4_62 rfl (lv_at hl 0 rfl) ?_
          refine lv_iconst (v := 4) hx hb dJ6_numberOfTrailingZeros_0f7a4_63 (by decide) ?_
          refine lv_icmp_le (tgt := 74) hx hb dJ6_numberOfTrailingZeros_0f7a4_64 (by decide) (fun c_12 => ?_) (fun c_12 => ?_)
          · refine lv_iload_n hx hb dJ6_numberOfTrailingZeros_0f7a4_74 rfl (lv_at hl 1 rfl) ?_
            refine lv_iload_n hx hb dJ6_numberOfTrailingZeros_0f7a4_75 rfl (lv_at hl 0 rfl) ?_
            refine lv_iconst (v := 1) hx hb dJ6_numberOfTrailingZeros_0f7a4_76 (by decide) ?_
            refine lv_iushr (v := (jushr (jushr ((x0 ^^^ (-1)) &&& (x0 - 1)) 16) 1)) hx hb dJ6_numberOfTrailingZeros_0f7a4_77 rfl ?_
            refine lv_iadd hx hb dJ6_numberOfTrailingZeros_0f7a4_78 ?_
            exact fi 79 _ ((1 + 16) + (jushr (jushr ((x0 ^^^ (-1)) &&& (x0 - 1)) 16) 1)) .int rfl rfl dJ6_numberOfTrailingZeros_0f7a4_79 (by rw [f_J6_numberOfTrailingZeros_0f7a4, if_pos c_1, if_neg c_2, if_pos c_10, if_pos c_11, if_pos c_12])
          · refine lv_iinc (v := ((1 + 16) + 2)) (lv' := [(1, .int ((1 + 16) + 2)), (0, .int (jushr ((x0 ^^^ (-1)) &&& (x0 - 1)) 16))]) hx hb dJ6_numberOfTrailingZeros_0f7a4_67 hl (k := 1) rfl (by rfl) (by decide) rfl (fun ls hl => ?_)
            refine lv_iload_n hx hb dJ6_numberOfTrailingZeros_0f7a4_70 rfl (lv_at hl 1 rfl) ?_
            refine lv_iconst (v := 2) hx hb dJ6_numberOfTrailingZeros_0f7a4_71 (by decide) ?_
            refine lv_iushr (v := (jushr (jushr ((x0 ^^^ (-1)) &&& (x0 - 1)) 16) 2)) hx hb dJ6_numberOfTrailingZeros_0f7a4_72 rfl ?_
            refine lv_istore_n (lv' := [(0, .int (jushr (jushr ((x0 ^^^ (-1)) &&& (x0 - 1)) 16) 2)), (1, .int ((1 + 16) + 2))]) hx hb dJ6_numberOfTrailingZeros_0f7a4_73 rfl hl (by decide) rfl (fun ls hl => ?_)
            refine lv_iload_n hx hb dJ6_numberOfTrailingZeros_0f7a4_74 rfl (lv_at hl 1 rfl) ?_
            refine lv_iload_n hx hb dJ6_numberOfTrailingZeros_0f7a4_75 rfl (lv_at hl 0 rfl) ?_
            refine lv_iconst (v := 1) hx hb dJ6_numberOfTrailingZeros_0f7a4_76 (by decide) ?_
            refine lv_iushr (v := (jushr (jushr (jushr ((x0 ^^^ (-1)) &&& (x0 - 1)) 16) 2) 1)) hx hb dJ6_numberOfTrailingZeros_0f7a4_77 rfl ?_
            refine lv_iadd hx hb dJ6_numberOfTrailingZeros_0f7a4_78 ?_
            exact fi 79 _ (((1 + 16) + 2) + (jushr (jushr (jushr ((x0 ^^^ (-1)) &&& (x0 - 1)) 16) 2) 1)) .int rfl rfl dJ6_numberOfTrailingZeros_0f7a4_79 (by rw [f_J6_numberOfTrailingZeros_0f7a4, if_pos c_1, if_neg c_2, if_pos c_10, if_pos c_11, if_neg c_12])
        · refine lv_iinc (v := ((1 + 16) + 4)) (lv' := [(1, .int ((1 + 16) + 4)), (0, .int (jushr ((x0 ^^^ (-1)) &&& (x0 - 1)) 16))]) hx hb dJ6_numberOfTrailingZeros_0f7a4_55 hl (k := 1) rfl (by rfl) (by decide) rfl (fun ls hl => ?_)
          refine lv_iload_n hx hb dJ6_numberOfTrailingZeros_0f7a4_58 rfl (lv_at hl 1 rfl) ?_
          refine lv_iconst (v := 4) hx hb dJ6_numberOfTrailingZeros_0f7a4_59 (by decide) ?_
          refine lv_iushr (v := (jushr (jushr ((x0 ^^^ (-1)) &&& (x0 - 1)) 16) 4)) hx hb dJ6_numberOfTrailingZeros_0f7a4_60 rfl ?_
          refine lv_istore_n (lv' := [(0, .int (jushr (jushr ((x0 ^^^ (-1)) &&& (x0 - 1)) 16) 4)), (1, .int ((1 + 16) + 4))]) hx hb dJ6_numberOfTrailingZeros_0f7a4_61 rfl hl (by decide) rfl (fun ls hl => ?_)
          refine lv_iload_n hx hb dJ6_numberOfTrailingZeros_0f7a4_62 rfl (lv_at hl 0 rfl) ?_
          refine lv_iconst (v := 4) hx hb dJ6_numberOfTrailingZeros_0f7a4_63 (by decide) ?_
          refine lv_icmp_le (tgt := 74) hx hb dJ6_numberOfTrailingZeros_0f7a4_64 (by decide) (fun c_13 => ?_) (fun c_13 => ?_)
          · refine lv_iload_n hx hb dJ6_numberOfTrailingZeros_0f7a4_74 rfl (lv_at hl 1 rfl) ?_
            refine lv_iload_n hx hb dJ6_numberOfTrailingZeros_0f7a4_75 rfl (lv_at hl 0 rfl) ?_
            refine lv_iconst (v := 1) hx hb dJ6_numberOfTrailingZeros_0f7a4_76 (by decide) ?_
            refine lv_iushr (v := (jushr (jushr (jushr ((x0 ^^^ (-1)) &&& (x0 - 1)) 16) 4) 1)) hx hb dJ6_numberOfTrailingZeros_0f7a4_77 rfl ?_
            refine lv_iadd hx hb dJ6_numberOfTrailingZeros_0f7a4_78 ?_
            exact fi 79 _ (((1 + 16) + 4) + (jushr (jushr (jushr ((x0 ^^^ (-1)) &&& (x0 - 1)) 16) 4) 1)) .int rfl rfl dJ6_numberOfTrailingZeros_0f7a4_79 (by rw [f_J6_numberOfTrailingZeros_0f7a4, if_pos c_1, if_neg c_2, if_pos c_10, if_neg c_11, if_pos c_13])
          · refine lv_iinc (v := (((1 + 16) + 4) + 2)) (lv' := [(1, .int (((1 + 16) + 4) + 2)), (0, .int (jushr (jushr ((x0 ^^^ (-1)) &&& (x0 - 1)) 16) 4))]) hx hb dJ6_numberOfTrailingZeros_0f7a4_67 hl (k := 1) rfl (by rfl) (by decide) rfl (fun ls hl => ?_)
            refine lv_iload_n hx hb dJ6_numberOfTrailingZeros_0f7a4_70 rfl (lv_at hl 1 rfl) ?_
            refine lv_iconst (v := 2) hx hb dJ6_numberOfTrailingZeros_0f7a4_71 (by decide) ?_
            refine lv_iushr (v := (jushr (jushr (jushr ((x0 ^^^ (-1)) &&& (x0 - 1)) 16) 4) 2)) hx hb dJ6_numberOfTrailingZeros_0f7a4_72 rfl ?_
            refine lv_istore_n (lv' := [(0, .int (jushr (jushr (jushr ((x0 ^^^ (-1)) &&& (x0 - 1)) 16) 4) 2)), (1, .int (((1 + 16) + 4) + 2))]) hx hb dJ6_numberOfTrailingZeros_0f7a4_73 rfl hl (by decide) rfl (fun ls hl => ?_)
            refine lv_iload_n hx hb dJ6_numberOfTrailingZeros_0f7a4_74 rfl (lv_at hl 1 rfl) ?_
            refine lv_iload_n hx hb dJ6_numberOfTrailingZeros_0f7a4_75 rfl (lv_at hl 0 rfl) ?_
            refine lv_iconst (v := 1) hx hb dJ6_numberOfTrailingZeros_0f7a4_76 (by decide) ?_
            refine lv_iushr (v := (jushr (jushr (jushr (jushr ((x0 ^^^ (-1)) &&& (x0 - 1)) 16) 4) 2) 1)) hx hb dJ6_numberOfTrailingZeros_0f7a4_77 rfl ?_
            refine lv_iadd hx hb dJ6_numberOfTrailingZeros_0f7a4_78 ?_
            exact fi 79 _ ((((1 + 16) + 4) + 2) + (jushr (jushr (jushr (jushr ((x0 ^^^ (-1)) &&& (x0 - 1)) 16) 4) 2) 1)) .int rfl rfl dJ6_numberOfTrailingZeros_0f7a4_79 (by rw [f_J6_numberOfTrailingZeros_0f7a4, if_pos c_1, if_neg c_2, if_pos c_10, if_neg c_11, if_neg c_13])
      · refine lv_iinc (v := ((1 + 16) + 8)) (lv' := [(1, .int ((1 + 16) + 8)), (0, .int (jushr ((x0 ^^^ (-1)) &&& (x0 - 1)) 16))]) hx hb dJ6_numberOfTrailingZeros_0f7a4_41 hl (k := 1) rfl (by rfl) (by decide) rfl (fun ls hl => ?_)
        refine lv_iload_n hx hb dJ6_numberOfTrailingZeros_0f7a4_44 rfl (lv_at hl 1 rfl) ?_
        refine lv_bipush (v := 8) hx hb dJ6_numberOfTrailingZeros_0f7a4_45 (by decide) ?_
        refine lv_iushr (v := (jushr (jushr ((x0 ^^^ (-1)) &&& (x0 - 1)) 16) 8)) hx hb dJ6_numberOfTrailingZeros_0f7a4_47 rfl ?_
        refine lv_istore_n (lv' := [(0, .int (jushr (jushr ((x0 ^^^ (-1)) &&& (x0 - 1)) 16) 8)), (1, .int ((1 + 16) + 8))]) hx hb dJ6_numberOfTrailingZeros_0f7a4_48 rfl hl (by decide) rfl (fun ls hl => ?_)
        refine lv_iload_n hx hb dJ6_numberOfTrailingZeros_0f7a4_49 rfl (lv_at hl 0 rfl) ?_
        refine lv_bipush (v := 16) hx hb dJ6_numberOfTrailingZeros_0f7a4_50 (by decide) ?_
        refine lv_icmp_le (tgt := 62) hx hb dJ6_numberOfTrailingZeros_0f7a4_52 (by decide) (fun c_14 => ?_) (fun c_14 => ?_)
        · refine lv_iload_n hx hb dJ6_numberOfTrailingZeros_0f7a4_62 rfl (lv_at hl 0 rfl) ?_
          refine lv_iconst (v := 4) hx hb dJ6_numberOfTrailingZeros_0f7a4_63 (by decide) ?_
          refine lv_icmp_le (tgt := 74) hx hb dJ6_numberOfTrailingZeros_0f7a4_64 (by decide) (fun c_15 => ?_) (fun c_15 => ?_)
          · refine lv_iload_n hx hb dJ6_numberOfTrailingZeros_0f7a4_74 rfl (lv_at hl 1 rfl) ?_
            refine lv_iload_n hx hb dJ6_numberOfTrailingZeros_0f7a4_75 rfl (lv_at hl 0 rfl) ?_
            refine lv_iconst (v := 1) hx hb dJ6_numberOfTrailingZeros_0f7a4_76 (by decide) ?_
            refine lv_iushr (v := (jushr (jushr (jushr ((x0 ^^^ (-1)) &&& (x0 - 1)) 16) 8) 1)) hx hb dJ6_numberOfTrailingZeros_0f7a4_77 rfl ?_
            refine lv_iadd hx hb dJ6_numberOfTrailingZeros_0f7a4_78 ?_
            exact fi 79 _ (((1 + 16) + 8) + (jushr (jushr (jushr ((x0 ^^^ (-1)) &&& (x0 - 1)) 16) 8) 1)) .int rfl rfl dJ6_numberOfTrailingZeros_0f7a4_79 (by rw [f_J6_numberOfTrailingZeros_0f7a4, if_pos c_1, if_neg c_2, if_neg c_10, if_pos c_14, if_pos c_15])
          · refine lv_iinc (v := (((1 + 16) + 8) + 2)) (lv' := [(1, .int (((1 + 16) + 8) + 2)), (0, .int (jushr (jushr ((x0 ^^^ (-1)) &&& (x0 - 1)) 16) 8))]) hx hb dJ6_numberOfTrailingZeros_0f7a4_67 hl (k := 1) rfl (by rfl) (by decide) rfl (fun ls hl => ?_)
            refine lv_iload_n hx hb dJ6_numberOfTrailingZeros_0f7a4_70 rfl (lv_at hl 1 rfl) ?_
            refine lv_iconst (v := 2) hx hb dJ6_numberOfTrailingZeros_0f7a4_71 (by decide) ?_
            refine lv_iushr (v := (jushr (jushr (jushr ((x0 ^^^ (-1)) &&& (x0 - 1)) 16) 8) 2)) hx hb dJ6_numberOfTrailingZeros_0f7a4_72 rfl ?_
            refine lv_istore_n (lv' := [(0, .int (jushr (jushr (jushr ((x0 ^^^ (-1)) &&& (x0 - 1)) 16) 8) 2)), (1, .int (((1 + 16) + 8) + 2))]) hx hb dJ6_numberOfTrailingZeros_0f7a4_73 rfl hl (by decide) rfl (fun ls hl => ?_)
            refine lv_iload_n hx hb dJ6_numberOfTrailingZeros_0f7a4_74 rfl (lv_at hl 1 rfl) ?_
            refine lv_iload_n hx hb dJ6_numberOfTrailingZeros_0f7a4_75 rfl (lv_at hl 0 rfl) ?_
            refine lv_iconst (v := 1) hx hb dJ6_numberOfTrailingZeros_0f7a4_76 (by decide) ?_
            refine lv_iushr (v := (jushr (jushr (jushr (jushr ((x0 ^^^ (-1)) &&& (x0 - 1)) 16) 8) 2) 1)) hx hb dJ6_numberOfTrailingZeros_0f7a4_77 rfl ?_
            refine lv_iadd hx hb dJ6_numberOfTrailingZeros_0f7a4_78 ?_
            exact fi 79 _ ((((1 + 16) + 8) + 2) + (jushr (jushr (jushr (jushr ((x0 ^^^ (-1)) &&& (x0 - 1)) 16) 8) 2) 1)) .int rfl rfl dJ6_numberOfTrailingZeros_0f7a4_79 (by rw [f_J6_numberOfTrailingZeros_0f7a4, if_pos c_1, if_neg c_2, if_neg c_10, if_pos c_14, if_neg c_15])
        · refine lv_iinc (v := (((1 + 16) + 8) + 4)) (lv' := [(1, .int (((1 + 16) + 8) + 4)), (0, .int (jushr (jushr ((x0 ^^^ (-1)) &&& (x0 - 1)) 16) 8))]) hx hb dJ6_numberOfTrailingZeros_0f7a4_55 hl (k := 1) rfl (by rfl) (by decide) rfl (fun ls hl => ?_)
          refine lv_iload_n hx hb dJ6_numberOfTrailingZeros_0f7a4_58 rfl (lv_at hl 1 rfl) ?_
          refine lv_iconst (v := 4) hx hb dJ6_numberOfTrailingZeros_0f7a4_59 (by decide) ?_
          refine lv_iushr (v := (jushr (jushr (jushr ((x0 ^^^ (-1)) &&& (x0 - 1)) 16) 8) 4)) hx hb dJ6_numberOfTrailingZeros_0f7a4_60 rfl ?_
          refine lv_istore_n (lv' := [(0, .int (jushr (jushr (jushr ((x0 ^^^ (-1)) &&& (x0 - 1)) 16) 8) 4)), (1, .int (((1 + 16) + 8) + 4))]) hx hb dJ6_numberOfTrailingZeros_0f7a4_61 rfl hl (by decide) rfl (fun ls hl => ?_)
          refine lv_iload_n hx hb dJ6_numberOfTrailingZeros_0f7a4_62 rfl (lv_at hl 0 rfl) ?_
          refine lv_iconst (v := 4) hx hb dJ6_numberOfTrailingZeros_0f7a4_63 (by decide) ?_
          refine lv_icmp_le (tgt := 74) hx hb dJ6_numberOfTrailingZeros_0f7a4_64 (by decide) (fun c_16 => ?_) (fun c_16 => ?_)
          · refine lv_iload_n hx hb dJ6_numberOfTrailingZeros_0f7a4_74 rfl (lv_at hl 1 rfl) ?_
            refine lv_iload_n hx hb dJ6_numberOfTrailingZeros_0f7a4_75 rfl (lv_at hl 0 rfl) ?_
            refine lv_iconst (v := 1) hx hb dJ6_numberOfTrailingZeros_0f7a4_76 (by decide) ?_
            refine lv_iushr (v := (jushr (jushr (jushr (jushr ((x0 ^^^ (-1)) &&& (x0 - 1)) 16) 8) 4) 1)) hx hb dJ6_numberOfTrailingZeros_0f7a4_77 rfl ?_
            refine lv_iadd hx hb dJ6_numberOfTrailingZeros_0f7a4_78 ?_
            exact fi 79 _ ((((1 + 16) + 8) + 4) + (jushr (jushr (jushr (jushr ((x0 ^^^ (-1)) &&& (x0 - 1)) 16) 8) 4) 1)) .int rfl rfl dJ6_numberOfTrailingZeros_0f7a4_79 (by rw [f_J6_numberOfTrailingZeros_0f7a4, if_pos c_1, if_neg c_2, if_neg c_10, if_neg c_14, if_pos c_16])
          · refine lv_iinc (v := ((((1 + 16) + 8) + 4) + 2)) (lv' := [(1, .int ((((1 + 16) + 8) + 4) + 2)), (0, .int (jushr (jushr (jushr ((x0 ^^^ (-1)) &&& (x0 - 1)) 16) 8) 4))]) hx hb dJ6_numberOfTrailingZeros_0f7a4_67 hl (k := 1) rfl (by rfl) (by decide) rfl (fun ls hl => ?_)
            refine lv_iload_n hx hb dJ6_numberOfTrailingZeros_0f7a4_70 rfl (lv_at hl 1 rfl) ?_
            refine lv_iconst (v := 2) hx hb dJ6_numberOfTrailingZeros_0f7a4_71 (by decide) ?_
            refine lv_iushr (v := (jushr (jushr (jushr (jushr ((x0 ^^^ (-1)) &&& (x0 - 1)) 16) 8) 4) 2)) hx hb dJ6_numberOfTrailingZeros_0f7a4_72 rfl ?_
            refine lv_istore_n (lv' := [(0, .int (jushr (jushr (jushr (jushr ((x0 ^^^ (-1)) &&& (x0 - 1)) 16) 8) 4) 2)), (1, .int ((((1 + 16) + 8) + 4) + 2))]) hx hb dJ6_numberOfTrailingZeros_0f7a4_73 rfl hl (by decide) rfl (fun ls hl => ?_)
            refine lv_iload_n hx hb dJ6_numberOfTrailingZeros_0f7a4_74 rfl (lv_at hl 1 rfl) ?_
            refine lv_iload_n hx hb dJ6_numberOfTrailingZeros_0f7a4_75 rfl (lv_at hl 0 rfl) ?_
            refine lv_iconst (v := 1) hx hb dJ6_numberOfTrailingZeros_0f7a4_76 (by decide) ?_
            refine lv_iushr (v := (jushr (jushr (jushr (jushr (jushr ((x0 ^^^ (-1)) &&& (x0 - 1)) 16) 8) 4) 2) 1)) hx hb dJ6_numberOfTrailingZeros_0f7a4_77 rfl ?_
            refine lv_iadd hx hb dJ6_numberOfTrailingZeros_0f7a4_78 ?_
            exact fi 79 _ (((((1 + 16) + 8) + 4) + 2) + (jushr (jushr (jushr (jushr (jushr ((x0 ^^^ (-1)) &&& (x0 - 1)) 16) 8) 4) 2) 1)) .int rfl rfl dJ6_numberOfTrailingZeros_0f7a4_79 (by rw [f_J6_numberOfTrailingZeros_0f7a4, if_pos c_1, if_neg c_2, if_neg c_10, if_neg c_14, if_neg c_16])
  · refine lv_iload_n hx hb dJ6_numberOfTrailingZeros_0f7a4_12 rfl (lv_at hl 0 rfl) ?_
    refine lv_bipush (v := 32) hx hb dJ6_numberOfTrailingZeros_0f7a4_13 (by decide) ?_
    refine lv_iand hx hb dJ6_numberOfTrailingZeros_0f7a4_15 ?_
    exact fi 16 _ (((x0 ^^^ (-1)) &&& (x0 - 1)) &&& 32) .int rfl rfl dJ6_numberOfTrailingZeros_0f7a4_16 (by rw [f_J6_numberOfTrailingZeros_0f7a4, if_neg c_1])

noncomputable def f_J6_bitCount_0f7a4_L34 (v0 : Int32) : Int32 := (((v0 + (jushr v0 8)) + (jushr (v0 + (jushr v0 8)) 16)) &&& 63)
noncomputable def k_J6_bitCount_0f7a4_L34 (v0 : Int32) : Prop := True
noncomputable def f_J6_bitCount_0f7a4 (x0 : Int32) : Int32 := f_J6_bitCount_0f7a4_L34  (((((x0 - ((jushr x0 1) &&& 1431655765)) &&& 858993459) + ((jushr (x0 - ((jushr x0 1) &&& 1431655765)) 2) &&& 858993459)) + (jushr (((x0 - ((jushr x0 1) &&& 1431655765)) &&& 858993459) + ((jushr (x0 - ((jushr x0 1) &&& 1431655765)) 2) &&& 858993459)) 4)) &&& 252645135)
noncomputable def k_J6_bitCount_0f7a4 (x0 : Int32) : Prop := k_J6_bitCount_0f7a4_L34  (((((x0 - ((jushr x0 1) &&& 1431655765)) &&& 858993459) + ((jushr (x0 - ((jushr x0 1) &&& 1431655765)) 2) &&& 858993459)) + (jushr (((x0 - ((jushr x0 1) &&& 1431655765)) &&& 858993459) + ((jushr (x0 - ((jushr x0 1) &&& 1431655765)) 2) &&& 858993459)) 4)) &&& 252645135)
theorem hd_J6_bitCount_0f7a4 : yJ6_bitCount_0f7a4.cls ≠ "java/lang/invoke/MethodHandle" ∧ yJ6_bitCount_0f7a4.cls ≠ "java/lang/invoke/VarHandle" ∧ (parseMethodDescriptor yJ6_bitCount_0f7a4.desc).map (fun d => d.parameters.length) = some 1 := by decide +kernel
set_option maxHeartbeats 4000000 in
set_option maxRecDepth 100000 in
theorem c_J6_bitCount_0f7a4 (l : Launch) (G : BGT) (x0 : Int32) (hk : k_J6_bitCount_0f7a4 x0) : RO l yJ6_bitCount_0f7a4 wsJ6_bitCount_0f7a4 0 G [] [.int x0] (some (.int (f_J6_bitCount_0f7a4 x0))) := by
  refine RO.ofW (cc := cJ6_bitCount_0f7a4) (maxL := 1) (ret := (some .int)) (C := RJ6) (by decide) rfl rfl (Nat.le_of_ble_eq_true rfl) ?_
  intro p e s m args below meth c Q ls hx hb hml hts hown hP hB hl fi fl fv
  have hS : va_S (fun _ => False) s.heap s.heap [] := va_S.rf
  have hl : lv_has ls 1 [(0, .int x0)] := hl
  have t_0 := hts (.constant RJ6 265 (1431655765)) (by decide +kernel)
  have t_1 := hts (.constant RJ6 266 (858993459)) (by decide +kernel)
  have t_2 := hts (.constant RJ6 267 (252645135)) (by decide +kernel)
  have T34 : ∀ (v0 : Int32), k_J6_bitCount_0f7a4_L34  v0 → f_J6_bitCount_0f7a4 x0 = f_J6_bitCount_0f7a4_L34  v0 → ∀ (ls : Array Slot), lv_has ls 1 [(0, .int v0)] → W p l e (rm 0) s m args below meth c s.heap [] 0 0 Q (F0 m 34 ls []) := by
    intro v0 hk hv ls hl
    rw [k_J6_bitCount_0f7a4_L34] at hk
    refine lv_iload_n hx hb dJ6_bitCount_0f7a4_34 rfl (lv_at hl 0 rfl) ?_
    refine lv_iload_n hx hb dJ6_bitCount_0f7a4_35 rfl (lv_at hl 0 rfl) ?_
    refine lv_bipush (v := 8) hx hb dJ6_bitCount_0f7a4_36 (by decide) ?_
    refine lv_iushr (v := (jushr v0 8)) hx hb dJ6_bitCount_0f7a4_38 rfl ?_
    refine lv_iadd hx hb dJ6_bitCount_0f7a4_39 ?_
    refine lv_istore_n (lv' := [(0, .int (v0 + (jushr v0 8)))]) hx hb dJ6_bitCount_0f7a4_40 rfl hl (by decide) rfl (fun ls hl => ?_)
    refine lv_iload_n hx hb dJ6_bitCount_0f7a4_41 rfl (lv_at hl 0 rfl) ?_
    refine lv_iload_n hx hb dJ6_bitCount_0f7a4_42 rfl (lv_at hl 0 rfl) ?_
    refine lv_bipush (v := 16) hx hb dJ6_bitCount_0f7a4_43 (by decide) ?_
    refine lv_iushr (v := (jushr (v0 + (jushr v0 8)) 16)) hx hb dJ6_bitCount_0f7a4_45 rfl ?_
    refine lv_iadd hx hb dJ6_bitCount_0f7a4_46 ?_
    refine lv_istore_n (lv' := [(0, .int ((v0 + (jushr v0 8)) + (jushr (v0 + (jushr v0 8)) 16)))]) hx hb dJ6_bitCount_0f7a4_47 rfl hl (by decide) rfl (fun ls hl => ?_)
    refine lv_iload_n hx hb dJ6_bitCount_0f7a4_48 rfl (lv_at hl 0 rfl) ?_
    refine lv_bipush (v := 63) hx hb dJ6_bitCount_0f7a4_49 (by decide) ?_
    refine lv_iand hx hb dJ6_bitCount_0f7a4_51 ?_
    exact fi 52 _ (((v0 + (jushr v0 8)) + (jushr (v0 + (jushr v0 8)) 16)) &&& 63) .int rfl rfl dJ6_bitCount_0f7a4_52 (by rw [hv, f_J6_bitCount_0f7a4_L34])
  rw [k_J6_bitCount_0f7a4] at hk
  refine lv_iload_n hx hb dJ6_bitCount_0f7a4_0 rfl (lv_at hl 0 rfl) ?_
  refine lv_iload_n hx hb dJ6_bitCount_0f7a4_1 rfl (lv_at hl 0 rfl) ?_
  refine lv_iconst (v := 1) hx hb dJ6_bitCount_0f7a4_2 (by decide) ?_
  refine lv_iushr (v := (jushr x0 1)) hx hb dJ6_bitCount_0f7a4_3 rfl ?_
  refine lv_ldcw (v := 1431655765) hx hb hown t_0 dJ6_bitCount_0f7a4_4 ?_
  refine lv_iand hx hb dJ6_bitCount_0f7a4_7 ?_
  refine lv_isub hx hb dJ6_bitCount_0f7a4_8 ?_
  refine lv_istore_n (lv' := [(0, .int (x0 - ((jushr x0 1) &&& 1431655765)))]) hx hb dJ6_bitCount_0f7a4_9 rfl hl (by decide) rfl (fun ls hl => ?_)
  refine lv_iload_n hx hb dJ6_bitCount_0f7a4_10 rfl (lv_at hl 0 rfl) ?_
  refine lv_ldcw (v := 858993459) hx hb hown t_1 dJ6_bitCount_0f7a4_11 ?_
  refine lv_iand hx hb dJ6_bitCount_0f7a4_14 ?_
  refine lv_iload_n hx hb dJ6_bitCount_0f7a4_15 rfl (lv_at hl 0 rfl) ?_
  refine lv_iconst (v := 2) hx hb dJ6_bitCount_0f7a4_16 (by decide) ?_
  refine lv_iushr (v := (jushr (x0 - ((jushr x0 1) &&& 1431655765)) 2)) hx hb dJ6_bitCount_0f7a4_17 rfl ?_
  refine lv_ldcw (v := 858993459) hx hb hown t_1 dJ6_bitCount_0f7a4_18 ?_
  refine lv_iand hx hb dJ6_bitCount_0f7a4_21 ?_
  refine lv_iadd hx hb dJ6_bitCount_0f7a4_22 ?_
  refine lv_istore_n (lv' := [(0, .int (((x0 - ((jushr x0 1) &&& 1431655765)) &&& 858993459) + ((jushr (x0 - ((jushr x0 1) &&& 1431655765)) 2) &&& 858993459)))]) hx hb dJ6_bitCount_0f7a4_23 rfl hl (by decide) rfl (fun ls hl => ?_)
  refine lv_iload_n hx hb dJ6_bitCount_0f7a4_24 rfl (lv_at hl 0 rfl) ?_
  refine lv_iload_n hx hb dJ6_bitCount_0f7a4_25 rfl (lv_at hl 0 rfl) ?_
  refine lv_iconst (v := 4) hx hb dJ6_bitCount_0f7a4_26 (by decide) ?_
  refine lv_iushr (v := (jushr (((x0 - ((jushr x0 1) &&& 1431655765)) &&& 858993459) + ((jushr (x0 - ((jushr x0 1) &&& 1431655765)) 2) &&& 858993459)) 4)) hx hb dJ6_bitCount_0f7a4_27 rfl ?_
  refine lv_iadd hx hb dJ6_bitCount_0f7a4_28 ?_
  refine lv_ldcw (v := 252645135) hx hb hown t_2 dJ6_bitCount_0f7a4_29 ?_
  refine lv_iand hx hb dJ6_bitCount_0f7a4_32 ?_
  refine lv_istore_n (lv' := [(0, .int (((((x0 - ((jushr x0 1) &&& 1431655765)) &&& 858993459) + ((jushr (x0 - ((jushr x0 1) &&& 1431655765)) 2) &&& 858993459)) + (jushr (((x0 - ((jushr x0 1) &&& 1431655765)) &&& 858993459) + ((jushr (x0 - ((jushr x0 1) &&& 1431655765)) 2) &&& 858993459)) 4)) &&& 252645135))]) hx hb dJ6_bitCount_0f7a4_33 rfl hl (by decide) rfl (fun ls hl => ?_)
  exact T34 (((((x0 - ((jushr x0 1) &&& 1431655765)) &&& 858993459) + ((jushr (x0 - ((jushr x0 1) &&& 1431655765)) 2) &&& 858993459)) + (jushr (((x0 - ((jushr x0 1) &&& 1431655765)) &&& 858993459) + ((jushr (x0 - ((jushr x0 1) &&& 1431655765)) 2) &&& 858993459)) 4)) &&& 252645135) hk (by rw [f_J6_bitCount_0f7a4]) ls (lv_sub hl [0] rfl)
