/-! STRINGS: String.length() and String.charAt(k) of a constant, by the JDK's own code -/
section CALLT
variable {p : Program} {l : Launch} {e : Env} {R : Room} {s : State} {m : MethodId} {args : Array Value} {below : List Frame} {meth : Method} {c : Code} {H : Heap} {locs : List Loc} {cells slots : Nat} {Q : State → Prop}
variable {pc nL maxL idx n ky : Nat} {ls : Array Slot} {As rest st0 : List Value} {A : Nat → Prop} {G : BGT} {ws wc : va_W} {y : MethodName} {wy Ts : List Cond} {cc bytes : ByteArray} {ret : Option FieldType} {own : String} {ov : Option Value}
/-- a reader is called on a string constant -/
theorem ro_VT (kS : Nat) (hkS : kS < 7) (hM : RO l y wy ky G wc (.ref (gK G kS) :: As) ov) (is : List Nat) (hsub : is.filterMap (fun i => ws[i]?) = wc) (hg : GoodIn Ts (wsV own idx RJ0 y wy)) (hw : ∃ w', wy = Cond.code y bytes maxL ret :: w') (hd : y.cls ≠ "java/lang/invoke/MethodHandle" ∧ y.cls ≠ "java/lang/invoke/VarHandle" ∧ (parseMethodDescriptor y.desc).map (fun d => d.parameters.length) = some n) (hyC : y.cls = RJ0) (hdg : decode cc pc = .ok (.invokevirtual idx, 3))
    (hn : As.length = n) (hst : st0 = As.reverse ++ .ref (gK G kS) :: rest) (hW : (rest.map fun v => v.category).sum ≤ 8) (hR : ky + 1 ≤ R.frames ∧ 8 + (maxL + 11) + 40 * ky ≤ R.locals) (hf : cells ≤ R.cells ∧ slots ≤ R.slots)
    (hx : p.tables.exec = Jvm.exec) (hb : c.code = cc) (hml : c.maxLocals = nL) (hown : s.vm.findClass own = some m.cls) (hts : ∀ w ∈ Ts, w.before args s = true) (hB : BG G A s s.heap) (hS : va_S A s.heap H locs) (hP : va_P (gD G) vwCl ws H) (hls : ls.size = nL)
    (kk : W p l e R s m args below meth c H locs cells slots Q (F0 m (pc + 3) ls (ov.toList ++ rest))) : W p l e R s m args below meth c H locs cells slots Q (F0 m pc ls st0) := by
  obtain ⟨w', hw⟩ := hw
  exact ro_run (va_runV (g := F0 m pc ls st0) ⟨hx, hb, hml, hown, hts⟩ (hM H) (cwV n hts hg hw rfl rfl ⟨hyC, hd⟩ hR) ⟨ro_blind, vk_recv hB.2.2.2.2.1 hkS hS, fun U hU hW => ⟨rfl, hU, hP.sub is hsub, ((hB.kept hS.2.1).narrow (fun _ h => h.elim)).warm hW⟩⟩ rfl hn hls hst (lv_room hW) hdg hf) kk
end CALLT
theorem hd_J0_coder_7d493 : yJ0_coder_7d493.cls ≠ "java/lang/invoke/MethodHandle" ∧ yJ0_coder_7d493.cls ≠ "java/lang/invoke/VarHandle" ∧ (parseMethodDescriptor yJ0_coder_7d493.desc).map (fun d => d.parameters.length) = some 0 := by decide +kernel
theorem hd_J0_isLatin1_aae02 : yJ0_isLatin1_aae02.cls ≠ "java/lang/invoke/MethodHandle" ∧ yJ0_isLatin1_aae02.cls ≠ "java/lang/invoke/VarHandle" ∧ (parseMethodDescriptor yJ0_isLatin1_aae02.desc).map (fun d => d.parameters.length) = some 0 := by decide +kernel
theorem hd_J0_length_8abf5 : yJ0_length_8abf5.cls ≠ "java/lang/invoke/MethodHandle" ∧ yJ0_length_8abf5.cls ≠ "java/lang/invoke/VarHandle" ∧ (parseMethodDescriptor yJ0_length_8abf5.desc).map (fun d => d.parameters.length) = some 0 := by decide +kernel
theorem hd_J0_charAt_5068e : yJ0_charAt_5068e.cls ≠ "java/lang/invoke/MethodHandle" ∧ yJ0_charAt_5068e.cls ≠ "java/lang/invoke/VarHandle" ∧ (parseMethodDescriptor yJ0_charAt_5068e.desc).map (fun d => d.parameters.length) = some 1 := by decide +kernel
theorem hd_J0_checkIndex_df160 : yJ0_checkIndex_df160.cls ≠ "java/lang/invoke/MethodHandle" ∧ yJ0_checkIndex_df160.cls ≠ "java/lang/invoke/VarHandle" ∧ (parseMethodDescriptor yJ0_checkIndex_df160.desc).map (fun d => d.parameters.length) = some 2 := by decide +kernel
theorem hd_J1_charAt_3b067 : yJ1_charAt_3b067.cls ≠ "java/lang/invoke/MethodHandle" ∧ yJ1_charAt_3b067.cls ≠ "java/lang/invoke/VarHandle" ∧ (parseMethodDescriptor yJ1_charAt_3b067.desc).map (fun d => d.parameters.length) = some 2 := by decide +kernel
theorem hd_J3_checkIndex_8e157 : yJ3_checkIndex_8e157.cls ≠ "java/lang/invoke/MethodHandle" ∧ yJ3_checkIndex_8e157.cls ≠ "java/lang/invoke/VarHandle" ∧ (parseMethodDescriptor yJ3_checkIndex_8e157.desc).map (fun d => d.parameters.length) = some 3 := by decide +kernel
set_option maxHeartbeats 4000000 in
set_option maxRecDepth 100000 in
theorem c_J0_coder (l : Launch) (G : BGT) (k : Nat) (hk : k < 7) : RO l yJ0_coder_7d493 wsJ0_coder_7d493 0 G [] [.ref (gK G k)] (some (.int 0)) := by
  refine RO.ofW (cc := cJ0_coder_7d493) (maxL := 1) (ret := some .byte) (C := RJ0) (by decide) rfl rfl (Nat.le_of_ble_eq_true rfl) ?_
  intro p e s m args below meth c Q ls hx hb hml hts hown hP hB hl fi fl fv
  have hS : va_S (fun _ => False) s.heap s.heap [] := va_S.rf
  have hl : lv_has ls 1 [(0, .ref (gK G k))] := hl
  have t_0 := hts (.fieldLink RJ0 38 "java/lang/String" "COMPACT_STRINGS" "Z") (by decide +kernel)
  have t_1 := hts (.fieldLink RJ0 15 "java/lang/String" "coder" "B") (by decide +kernel)
  refine va_gets hx hb hB.2.2.2.2.2.1 hS hown t_0 (fun _ h9 => h9) dJ0_coder_7d493_0 ?_
  refine lv_if_eq (tgt := 13) hx hb dJ0_coder_7d493_3 (by decide) (fun c => absurd c (by decide)) (fun _ => ?_)
  refine lv_aload_n hx hb dJ0_coder_7d493_6 rfl (lv_at hl 0 rfl) ?_
  refine vk_getf hx hb (hB.2.2.2.2.1.1 k hk).2.1 hS hown t_1 (fun _ h9 => h9) dJ0_coder_7d493_7 ?_
  refine lv_goto (tgt := 14) hx hb dJ0_coder_7d493_10 (by decide) ?_
  exact fi 14 _ 0 .byte rfl rfl dJ0_coder_7d493_14 rfl
set_option maxHeartbeats 4000000 in
set_option maxRecDepth 100000 in
theorem c_J0_isLatin1 (l : Launch) (G : BGT) (k : Nat) (hk : k < 7) : RO l yJ0_isLatin1_aae02 wsJ0_isLatin1_aae02 0 G [] [.ref (gK G k)] (some (.int 1)) := by
  refine RO.ofW (cc := cJ0_isLatin1_aae02) (maxL := 1) (ret := some .boolean) (C := RJ0) (by decide) rfl rfl (Nat.le_of_ble_eq_true rfl) ?_
  intro p e s m args below meth c Q ls hx hb hml hts hown hP hB hl fi fl fv
  have hS : va_S (fun _ => False) s.heap s.heap [] := va_S.rf
  have hl : lv_has ls 1 [(0, .ref (gK G k))] := hl
  have t_0 := hts (.fieldLink RJ0 38 "java/lang/String" "COMPACT_STRINGS" "Z") (by decide +kernel)
  have t_1 := hts (.fieldLink RJ0 15 "java/lang/String" "coder" "B") (by decide +kernel)
  refine va_gets hx hb hB.2.2.2.2.2.1 hS hown t_0 (fun _ h9 => h9) dJ0_isLatin1_aae02_0 ?_
  refine lv_if_eq (tgt := 17) hx hb dJ0_isLatin1_aae02_3 (by decide) (fun c => absurd c (by decide)) (fun _ => ?_)
  refine lv_aload_n hx hb dJ0_isLatin1_aae02_6 rfl (lv_at hl 0 rfl) ?_
  refine vk_getf hx hb (hB.2.2.2.2.1.1 k hk).2.1 hS hown t_1 (fun _ h9 => h9) dJ0_isLatin1_aae02_7 ?_
  refine lv_if_ne (tgt := 17) hx hb dJ0_isLatin1_aae02_10 (by decide) (fun c => absurd rfl c) (fun _ => ?_)
  refine lv_iconst (v := 1) hx hb dJ0_isLatin1_aae02_13 (by decide) ?_
  refine lv_goto (tgt := 18) hx hb dJ0_isLatin1_aae02_14 (by decide) ?_
  exact fi 18 _ 1 .boolean rfl rfl dJ0_isLatin1_aae02_18 rfl
/-- the length of the constant k -/
def f_len (k : Nat) : Int32 := nI (bgL.getD k 0) >>> (0 &&& 31)
set_option maxHeartbeats 4000000 in
set_option maxRecDepth 100000 in
theorem c_J0_length_8abf5 (l : Launch) (G : BGT) (k : Nat) (hk : k < 7) : RO l yJ0_length_8abf5 wsJ0_length_8abf5 1 G [] [.ref (gK G k)] (some (.int (f_len k))) := by
  refine RO.ofW (cc := cJ0_length_8abf5) (maxL := 1) (ret := some .int) (C := RJ0) (by decide) rfl rfl (Nat.le_of_ble_eq_true rfl) ?_
  intro p e s m args below meth c Q ls hx hb hml hts hown hP hB hl fi fl fv
  have hS : va_S (fun _ => False) s.heap s.heap [] := va_S.rf
  have hl : lv_has ls 1 [(0, .ref (gK G k))] := hl
  have t_0 := hts (.fieldLink RJ0 9 "java/lang/String" "value" "[B") (by decide +kernel)
  refine lv_aload_n hx hb dJ0_length_8abf5_0 rfl (lv_at hl 0 rfl) ?_
  refine vk_getf hx hb (hB.2.2.2.2.1.1 k hk).2.2.1 hS hown t_0 (fun _ h9 => h9) dJ0_length_8abf5_1 ?_
  refine va_tlen (v := nI (bgL.getD k 0)) hx hb (hB.2.2.2.2.1.1 k hk).2.2.2 hS rfl dJ0_length_8abf5_4 ?_
  refine lv_aload_n hx hb dJ0_length_8abf5_5 rfl (lv_at hl 0 rfl) ?_
  refine ro_VT (As := []) (rest := [.int (nI (bgL.getD k 0))]) k hk (c_J0_coder l G k hk) [] rfl gJ0_length_8abf5_J0_coder_7d493 ⟨_, rfl⟩ hd_J0_coder_7d493 rfl dJ0_length_8abf5_6 rfl rfl (Nat.le_of_ble_eq_true rfl) ⟨Nat.le_of_ble_eq_true rfl, Nat.le_of_ble_eq_true rfl⟩ ⟨Nat.le_refl 0, Nat.le_refl 0⟩ hx hb hml hown hts hB hS hP hl.1 ?_
  refine W.eq (g2 := F0 m 9 ls [.int 0, .int (nI (bgL.getD k 0))]) rfl ?_
  refine lv_ishr hx hb dJ0_length_8abf5_9 ?_
  exact fi 10 _ (nI (bgL.getD k 0) >>> (0 &&& 31)) .int rfl rfl dJ0_length_8abf5_10 (by rw [f_len])
set_option maxHeartbeats 4000000 in
set_option maxRecDepth 100000 in
theorem c_J3_checkIndex (l : Launch) (G : BGT) (i n : Int32) (v : Value) (hv : v.category = 1) (h1 : ¬ i < 0) (h2 : i < n) : RO l yJ3_checkIndex_8e157 wsJ3_checkIndex_8e157 0 G [] [.int i, .int n, v] (some (.int i)) := by
  refine RO.ofW (cc := cJ3_checkIndex_8e157) (maxL := 3) (ret := some .int) (C := RJ3) (by decide) rfl rfl (by show ([Slot.val (.int i)] ++ ([Slot.val (.int n)] ++ ((if v.category = 2 then [Slot.val v, Slot.second] else [Slot.val v]) ++ []))).length ≤ 3; rw [if_neg (by rw [hv]; decide)]; exact Nat.le_refl 3) ?_
  intro p e s m args below meth c Q ls hx hb hml hts hown hP hB hl fi fl fv
  have hl : lv_has ls 3 [(0, .int i), (1, .int n), (2, v)] := hl
  refine lv_iload_n hx hb dJ3_checkIndex_8e157_0 rfl (lv_at hl 0 rfl) ?_
  refine lv_if_lt (tgt := 9) hx hb dJ3_checkIndex_8e157_1 (by decide) (fun c => absurd c h1) (fun _ => ?_)
  refine lv_iload_n hx hb dJ3_checkIndex_8e157_4 rfl (lv_at hl 0 rfl) ?_
  refine lv_iload_n hx hb dJ3_checkIndex_8e157_5 rfl (lv_at hl 1 rfl) ?_
  refine lv_icmp_lt (tgt := 16) hx hb dJ3_checkIndex_8e157_6 (by decide) (fun _ => ?_) (fun c => absurd h2 c)
  refine lv_iload_n hx hb dJ3_checkIndex_8e157_16 rfl (lv_at hl 0 rfl) ?_
  exact fi 17 _ i .int rfl rfl dJ3_checkIndex_8e157_17 rfl
set_option maxHeartbeats 4000000 in
set_option maxRecDepth 100000 in
theorem c_J0_checkIndex (l : Launch) (G : BGT) (i n : Int32) (h1 : ¬ i < 0) (h2 : i < n) : RO l yJ0_checkIndex_df160 wsJ0_checkIndex_df160 1 G [] [.int i, .int n] none := by
  refine RO.ofW (cc := cJ0_checkIndex_df160) (maxL := 2) (ret := none) (C := RJ0) (by decide) rfl rfl (Nat.le_of_ble_eq_true rfl) ?_
  intro p e s m args below meth c Q ls hx hb hml hts hown hP hB hl fi fl fv
  have hS : va_S (fun _ => False) s.heap s.heap [] := va_S.rf
  have hl : lv_has ls 2 [(0, .int i), (1, .int n)] := hl
  have t_0 := hts (.fieldLink RJ0 1053 "jdk/internal/util/Preconditions" "SIOOBE_FORMATTER" "Ljava/util/function/BiFunction;") (by decide +kernel)
  refine lv_iload_n hx hb dJ0_checkIndex_df160_0 rfl (lv_at hl 0 rfl) ?_
  refine lv_iload_n hx hb dJ0_checkIndex_df160_1 rfl (lv_at hl 1 rfl) ?_
  rcases hB.2.2.2.2.2.2 with hz | ⟨t, hz⟩
  · refine va_gets hx hb hz hS hown t_0 (fun _ h9 => h9) dJ0_checkIndex_df160_2 ?_
    refine ro_S (As := [.int i, .int n, .null]) (rest := []) (c_J3_checkIndex l G i n .null rfl h1 h2) [] rfl gJ0_checkIndex_df160_J3_checkIndex_8e157 ⟨_, rfl⟩ hd_J3_checkIndex_8e157 dJ0_checkIndex_df160_5 rfl rfl (Nat.le_of_ble_eq_true rfl) ⟨Nat.le_of_ble_eq_true rfl, Nat.le_of_ble_eq_true rfl⟩ ⟨Nat.le_refl 0, Nat.le_refl 0⟩ hx hb hml hown hts hB hS hP hl.1 ?_
    refine W.eq (g2 := F0 m 8 ls [.int i]) rfl ?_
    refine lv_pop hx hb dJ0_checkIndex_df160_8 rfl ?_
    exact fv 9 _ rfl dJ0_checkIndex_df160_9 rfl
  · refine va_gets hx hb hz hS hown t_0 (fun _ h9 => h9) dJ0_checkIndex_df160_2 ?_
    refine ro_S (As := [.int i, .int n, .ref t]) (rest := []) (c_J3_checkIndex l G i n (.ref t) rfl h1 h2) [] rfl gJ0_checkIndex_df160_J3_checkIndex_8e157 ⟨_, rfl⟩ hd_J3_checkIndex_8e157 dJ0_checkIndex_df160_5 rfl rfl (Nat.le_of_ble_eq_true rfl) ⟨Nat.le_of_ble_eq_true rfl, Nat.le_of_ble_eq_true rfl⟩ ⟨Nat.le_refl 0, Nat.le_refl 0⟩ hx hb hml hown hts hB hS hP hl.1 ?_
    refine W.eq (g2 := F0 m 8 ls [.int i]) rfl ?_
    refine lv_pop hx hb dJ0_checkIndex_df160_8 rfl ?_
    exact fv 9 _ rfl dJ0_checkIndex_df160_9 rfl
/-- the char at i of the constant k -/
def f_chr (k : Nat) (i : Int32) : Int32 := jchar ((bgY.getD k []).getD i.toNatClampNeg 0 &&& 255)
theorem bgL_lt (k : Nat) (hk : k < 7) : bgL.getD k 0 < 2 ^ 31 := by
  have h : ∀ k, k < 7 → bgL.getD k 0 < 2 ^ 31 := by decide
  exact h k hk
set_option maxHeartbeats 4000000 in
set_option maxRecDepth 100000 in
theorem c_J1_charAt (l : Launch) (G : BGT) (k : Nat) (hk : k < 7) (i : Int32) (h1 : ¬ i < 0) (h2 : i < nI (bgL.getD k 0)) : RO l yJ1_charAt_3b067 wsJ1_charAt_3b067 2 G [] [.ref (gV G k), .int i] (some (.int (f_chr k i))) := by
  refine RO.ofW (cc := cJ1_charAt_3b067) (maxL := 2) (ret := some .char) (C := RJ1) (by decide) rfl rfl (Nat.le_of_ble_eq_true rfl) ?_
  intro p e s m args below meth c Q ls hx hb hml hts hown hP hB hl fi fl fv
  have hS : va_S (fun _ => False) s.heap s.heap [] := va_S.rf
  have hl : lv_has ls 2 [(0, .ref (gV G k)), (1, .int i)] := hl
  refine lv_iload_n hx hb dJ1_charAt_3b067_0 rfl (lv_at hl 1 rfl) ?_
  refine lv_aload_n hx hb dJ1_charAt_3b067_1 rfl (lv_at hl 0 rfl) ?_
  refine va_tlen (v := nI (bgL.getD k 0)) hx hb (hB.2.2.2.2.1.1 k hk).2.2.2 hS rfl dJ1_charAt_3b067_2 ?_
  refine ro_S (As := [.int i, .int (nI (bgL.getD k 0))]) (rest := []) (c_J0_checkIndex l G i (nI (bgL.getD k 0)) h1 h2) [] rfl gJ1_charAt_3b067_J0_checkIndex_df160 ⟨_, rfl⟩ hd_J0_checkIndex_df160 dJ1_charAt_3b067_3 rfl rfl (Nat.le_of_ble_eq_true rfl) ⟨Nat.le_of_ble_eq_true rfl, Nat.le_of_ble_eq_true rfl⟩ ⟨Nat.le_refl 0, Nat.le_refl 0⟩ hx hb hml hown hts hB hS hP hl.1 ?_
  refine W.eq (g2 := F0 m 6 ls []) rfl ?_
  refine lv_aload_n hx hb dJ1_charAt_3b067_6 rfl (lv_at hl 0 rfl) ?_
  refine lv_iload_n hx hb dJ1_charAt_3b067_7 rfl (lv_at hl 1 rfl) ?_
  refine va_tb (v := .int ((bgY.getD k []).getD i.toNatClampNeg 0)) hx hb (hB.2.2.2.2.1.1 k hk).2.2.2 hS (in_of h1 (in_lt h2) (bgL_lt k hk)) rfl dJ1_charAt_3b067_8 ?_
  refine lv_sipush (v := 255) hx hb dJ1_charAt_3b067_9 (by decide) ?_
  refine lv_iand hx hb dJ1_charAt_3b067_12 ?_
  refine lv_i2c (v := f_chr k i) hx hb dJ1_charAt_3b067_13 rfl ?_
  exact fi 14 _ (f_chr k i) .char rfl (pk_nc _) dJ1_charAt_3b067_14 rfl
set_option maxHeartbeats 4000000 in
set_option maxRecDepth 100000 in
theorem c_J0_charAt_5068e (l : Launch) (G : BGT) (k : Nat) (hk : k < 7) (i : Int32) (h1 : ¬ i < 0) (h2 : i < nI (bgL.getD k 0)) : RO l yJ0_charAt_5068e wsJ0_charAt_5068e 3 G [] [.ref (gK G k), .int i] (some (.int (f_chr k i))) := by
  refine RO.ofW (cc := cJ0_charAt_5068e) (maxL := 2) (ret := some .char) (C := RJ0) (by decide) rfl rfl (Nat.le_of_ble_eq_true rfl) ?_
  intro p e s m args below meth c Q ls hx hb hml hts hown hP hB hl fi fl fv
  have hS : va_S (fun _ => False) s.heap s.heap [] := va_S.rf
  have hl : lv_has ls 2 [(0, .ref (gK G k)), (1, .int i)] := hl
  have t_0 := hts (.fieldLink RJ0 9 "java/lang/String" "value" "[B") (by decide +kernel)
  refine lv_aload_n hx hb dJ0_charAt_5068e_0 rfl (lv_at hl 0 rfl) ?_
  refine ro_VT (As := []) (rest := []) k hk (c_J0_isLatin1 l G k hk) [] rfl gJ0_charAt_5068e_J0_isLatin1_aae02 ⟨_, rfl⟩ hd_J0_isLatin1_aae02 rfl dJ0_charAt_5068e_1 rfl rfl (Nat.le_of_ble_eq_true rfl) ⟨Nat.le_of_ble_eq_true rfl, Nat.le_of_ble_eq_true rfl⟩ ⟨Nat.le_refl 0, Nat.le_refl 0⟩ hx hb hml hown hts hB hS hP hl.1 ?_
  refine W.eq (g2 := F0 m 4 ls [.int 1]) rfl ?_
  refine lv_if_eq (tgt := 16) hx hb dJ0_charAt_5068e_4 (by decide) (fun c => absurd c (by decide)) (fun _ => ?_)
  refine lv_aload_n hx hb dJ0_charAt_5068e_7 rfl (lv_at hl 0 rfl) ?_
  refine vk_getf hx hb (hB.2.2.2.2.1.1 k hk).2.2.1 hS hown t_0 (fun _ h9 => h9) dJ0_charAt_5068e_8 ?_
  refine lv_iload_n hx hb dJ0_charAt_5068e_11 rfl (lv_at hl 1 rfl) ?_
  refine ro_S (As := [.ref (gV G k), .int i]) (rest := []) (c_J1_charAt l G k hk i h1 h2) [] rfl gJ0_charAt_5068e_J1_charAt_3b067 ⟨_, rfl⟩ hd_J1_charAt_3b067 dJ0_charAt_5068e_12 rfl rfl (Nat.le_of_ble_eq_true rfl) ⟨Nat.le_of_ble_eq_true rfl, Nat.le_of_ble_eq_true rfl⟩ ⟨Nat.le_refl 0, Nat.le_refl 0⟩ hx hb hml hown hts hB hS hP hl.1 ?_
  refine W.eq (g2 := F0 m 15 ls [.int (f_chr k i)]) rfl ?_
  exact fi 15 _ (f_chr k i) .char rfl (pk_nc _) dJ0_charAt_5068e_15 rfl
