theorem hd_X7_tries : yX7_tries.cls ≠ "java/lang/invoke/MethodHandle" ∧ yX7_tries.cls ≠ "java/lang/invoke/VarHandle" ∧ (parseMethodDescriptor yX7_tries.desc).map (fun d => d.parameters.length) = some 2 := by decide +kernel

noncomputable def f_X7_triesS_L85 (x2 : Int32) (mH : Nat → Int32) (mX : Nat → Int32) : Nat → Int32 → Int32 → Int32 × Int32
  | 0, v3, v4 => (v3, v4)
  | n + 1, v3, v4 => (if x2 ≤ v4 then (v3, v4) else f_X7_triesS_L85 x2 mH mX n (v3 + (mH (Int32.toNatClampNeg (mX (Int32.toNatClampNeg v4))))) (v4 + 1))
noncomputable def k_X7_triesS_L85 (x2 : Int32) (mH : Nat → Int32) (mX : Nat → Int32) : Nat → Int32 → Int32 → Prop
  | 0, _, _ => False
  | n + 1, v3, v4 => (if x2 ≤ v4 then True else (vp_in v4 8 ∧ (vp_in (mX (Int32.toNatClampNeg v4)) 256 ∧ k_X7_triesS_L85 x2 mH mX n (v3 + (mH (Int32.toNatClampNeg (mX (Int32.toNatClampNeg v4))))) (v4 + 1))))
noncomputable def f_X7_triesS_L150 (mN : Nat → Int32) (mC : Nat → Int32) (mW : Nat → Int32) (mX : Nat → Int32) : Nat → Int32 → (Nat → Int32) → Int32 → Int32 × (Nat → Int32) × Int32
  | 0, v4, w_mB, w_mE => (v4, w_mB, w_mE)
  | n + 1, v4, w_mB, w_mE => (if (mN (Int32.toNatClampNeg 1)) ≤ v4 then (v4, w_mB, w_mE) else f_X7_triesS_L150 mN mC mW mX n (v4 + 1) (upd w_mB (Int32.toNatClampNeg v4) ((3 * (mW (Int32.toNatClampNeg v4))) + (mC (Int32.toNatClampNeg (mX (Int32.toNatClampNeg (mW (Int32.toNatClampNeg v4)))))))) w_mE)
noncomputable def k_X7_triesS_L150 (mN : Nat → Int32) (mC : Nat → Int32) (mW : Nat → Int32) (mX : Nat → Int32) : Nat → Int32 → (Nat → Int32) → Int32 → Prop
  | 0, _, _, _ => False
  | n + 1, v4, w_mB, w_mE => (if (mN (Int32.toNatClampNeg 1)) ≤ v4 then True else (vp_in v4 8 ∧ (vp_in v4 8 ∧ (vp_in (mW (Int32.toNatClampNeg v4)) 8 ∧ (vp_in (mX (Int32.toNatClampNeg (mW (Int32.toNatClampNeg v4)))) 256 ∧ (vp_in v4 8 ∧ k_X7_triesS_L150 mN mC mW mX n (v4 + 1) (upd w_mB (Int32.toNatClampNeg v4) ((3 * (mW (Int32.toNatClampNeg v4))) + (mC (Int32.toNatClampNeg (mX (Int32.toNatClampNeg (mW (Int32.toNatClampNeg v4)))))))) w_mE))))))
noncomputable def f_X7_triesS_L12 (F_ : Int32 → Int32 → (Nat → Int32) → (Nat → Int32) → (Nat → Int32) → (Nat → Int32) → (Nat → Int32) → (Nat → Int32) → Int32 → (Nat → Int32) × (Nat → Int32) × (Nat → Int32) × Int32) (x1 : Int32) (x2 : Int32) (mN : Nat → Int32) (mC : Nat → Int32) (mH : Nat → Int32) : Nat → Int32 → (Nat → Int32) → (Nat → Int32) → (Nat → Int32) → Int32 → Int32 × (Nat → Int32) × (Nat → Int32) × (Nat → Int32) × Int32
  | 0, v3, w_mW, w_mB, w_mX, w_mE => (v3, w_mW, w_mB, w_mX, w_mE)
  | n + 1, v3, w_mW, w_mB, w_mX, w_mE => (if x2 < v3 then (v3, w_mW, w_mB, w_mX, w_mE) else (if 8 ≤ v3 then (v3, w_mW, w_mB, w_mX, w_mE) else (if v3 = x2 then f_X7_triesS_L12 F_ x1 x2 mN mC mH n (v3 + 1) ((F_ (x1 + 1) (x2 + 1) mN mC mH (upd w_mW (Int32.toNatClampNeg x1) v3) w_mB (upd w_mX (Int32.toNatClampNeg v3) ((w_mX (Int32.toNatClampNeg v3)) ||| (1 <<< (x1 &&& 31)))) w_mE).1) ((F_ (x1 + 1) (x2 + 1) mN mC mH (upd w_mW (Int32.toNatClampNeg x1) v3) w_mB (upd w_mX (Int32.toNatClampNeg v3) ((w_mX (Int32.toNatClampNeg v3)) ||| (1 <<< (x1 &&& 31)))) w_mE).2.1) (upd ((F_ (x1 + 1) (x2 + 1) mN mC mH (upd w_mW (Int32.toNatClampNeg x1) v3) w_mB (upd w_mX (Int32.toNatClampNeg v3) ((w_mX (Int32.toNatClampNeg v3)) ||| (1 <<< (x1 &&& 31)))) w_mE).2.2.1) (Int32.toNatClampNeg v3) ((((F_ (x1 + 1) (x2 + 1) mN mC mH (upd w_mW (Int32.toNatClampNeg x1) v3) w_mB (upd w_mX (Int32.toNatClampNeg v3) ((w_mX (Int32.toNatClampNeg v3)) ||| (1 <<< (x1 &&& 31)))) w_mE).2.2.1) (Int32.toNatClampNeg v3)) ^^^ (1 <<< (x1 &&& 31)))) ((F_ (x1 + 1) (x2 + 1) mN mC mH (upd w_mW (Int32.toNatClampNeg x1) v3) w_mB (upd w_mX (Int32.toNatClampNeg v3) ((w_mX (Int32.toNatClampNeg v3)) ||| (1 <<< (x1 &&& 31)))) w_mE).2.2.2) else f_X7_triesS_L12 F_ x1 x2 mN mC mH n (v3 + 1) ((F_ (x1 + 1) x2 mN mC mH (upd w_mW (Int32.toNatClampNeg x1) v3) w_mB (upd w_mX (Int32.toNatClampNeg v3) ((w_mX (Int32.toNatClampNeg v3)) ||| (1 <<< (x1 &&& 31)))) w_mE).1) ((F_ (x1 + 1) x2 mN mC mH (upd w_mW (Int32.toNatClampNeg x1) v3) w_mB (upd w_mX (Int32.toNatClampNeg v3) ((w_mX (Int32.toNatClampNeg v3)) ||| (1 <<< (x1 &&& 31)))) w_mE).2.1) (upd ((F_ (x1 + 1) x2 mN mC mH (upd w_mW (Int32.toNatClampNeg x1) v3) w_mB (upd w_mX (Int32.toNatClampNeg v3) ((w_mX (Int32.toNatClampNeg v3)) ||| (1 <<< (x1 &&& 31)))) w_mE).2.2.1) (Int32.toNatClampNeg v3) ((((F_ (x1 + 1) x2 mN mC mH (upd w_mW (Int32.toNatClampNeg x1) v3) w_mB (upd w_mX (Int32.toNatClampNeg v3) ((w_mX (Int32.toNatClampNeg v3)) ||| (1 <<< (x1 &&& 31)))) w_mE).2.2.1) (Int32.toNatClampNeg v3)) ^^^ (1 <<< (x1 &&& 31)))) ((F_ (x1 + 1) x2 mN mC mH (upd w_mW (Int32.toNatClampNeg x1) v3) w_mB (upd w_mX (Int32.toNatClampNeg v3) ((w_mX (Int32.toNatClampNeg v3)) ||| (1 <<< (x1 &&& 31)))) w_mE).2.2.2))))
noncomputable def k_X7_triesS_L12 (F_ : Int32 → Int32 → (Nat → Int32) → (Nat → Int32) → (Nat → Int32) → (Nat → Int32) → (Nat → Int32) → (Nat → Int32) → Int32 → (Nat → Int32) × (Nat → Int32) × (Nat → Int32) × Int32) (K_ : Int32 → Int32 → (Nat → Int32) → (Nat → Int32) → (Nat → Int32) → (Nat → Int32) → (Nat → Int32) → (Nat → Int32) → Int32 → Prop) (x1 : Int32) (x2 : Int32) (mN : Nat → Int32) (mC : Nat → Int32) (mH : Nat → Int32) : Nat → Int32 → (Nat → Int32) → (Nat → Int32) → (Nat → Int32) → Int32 → Prop
  | 0, _, _, _, _, _ => False
  | n + 1, v3, w_mW, w_mB, w_mX, w_mE => (if x2 < v3 then True else (if 8 ≤ v3 then True else (vp_in v3 8 ∧ (vp_in v3 8 ∧ (vp_in x1 8 ∧ (if v3 = x2 then (K_ (x1 + 1) (x2 + 1) mN mC mH (upd w_mW (Int32.toNatClampNeg x1) v3) w_mB (upd w_mX (Int32.toNatClampNeg v3) ((w_mX (Int32.toNatClampNeg v3)) ||| (1 <<< (x1 &&& 31)))) w_mE ∧ (vp_in v3 8 ∧ (vp_in v3 8 ∧ k_X7_triesS_L12 F_ K_ x1 x2 mN mC mH n (v3 + 1) ((F_ (x1 + 1) (x2 + 1) mN mC mH (upd w_mW (Int32.toNatClampNeg x1) v3) w_mB (upd w_mX (Int32.toNatClampNeg v3) ((w_mX (Int32.toNatClampNeg v3)) ||| (1 <<< (x1 &&& 31)))) w_mE).1) ((F_ (x1 + 1) (x2 + 1) mN mC mH (upd w_mW (Int32.toNatClampNeg x1) v3) w_mB (upd w_mX (Int32.toNatClampNeg v3) ((w_mX (Int32.toNatClampNeg v3)) ||| (1 <<< (x1 &&& 31)))) w_mE).2.1) (upd ((F_ (x1 + 1) (x2 + 1) mN mC mH (upd w_mW (Int32.toNatClampNeg x1) v3) w_mB (upd w_mX (Int32.toNatClampNeg v3) ((w_mX (Int32.toNatClampNeg v3)) ||| (1 <<< (x1 &&& 31)))) w_mE).2.2.1) (Int32.toNatClampNeg v3) ((((F_ (x1 + 1) (x2 + 1) mN mC mH (upd w_mW (Int32.toNatClampNeg x1) v3) w_mB (upd w_mX (Int32.toNatClampNeg v3) ((w_mX (Int32.toNatClampNeg v3)) ||| (1 <<< (x1 &&& 31)))) w_mE).2.2.1) (Int32.toNatClampNeg v3)) ^^^ (1 <<< (x1 &&& 31)))) ((F_ (x1 + 1) (x2 + 1) mN mC mH (upd w_mW (Int32.toNatClampNeg x1) v3) w_mB (upd w_mX (Int32.toNatClampNeg v3) ((w_mX (Int32.toNatClampNeg v3)) ||| (1 <<< (x1 &&& 31)))) w_mE).2.2.2)))) else (K_ (x1 + 1) x2 mN mC mH (upd w_mW (Int32.toNatClampNeg x1) v3) w_mB (upd w_mX (Int32.toNatClampNeg v3) ((w_mX (Int32.toNatClampNeg v3)) ||| (1 <<< (x1 &&& 31)))) w_mE ∧ (vp_in v3 8 ∧ (vp_in v3 8 ∧ k_X7_triesS_L12 F_ K_ x1 x2 mN mC mH n (v3 + 1) ((F_ (x1 + 1) x2 mN mC mH (upd w_mW (Int32.toNatClampNeg x1) v3) w_mB (upd w_mX (Int32.toNatClampNeg v3) ((w_mX (Int32.toNatClampNeg v3)) ||| (1 <<< (x1 &&& 31)))) w_mE).1) ((F_ (x1 + 1) x2 mN mC mH (upd w_mW (Int32.toNatClampNeg x1) v3) w_mB (upd w_mX (Int32.toNatClampNeg v3) ((w_mX (Int32.toNatClampNeg v3)) ||| (1 <<< (x1 &&& 31)))) w_mE).2.1) (upd ((F_ (x1 + 1) x2 mN mC mH (upd w_mW (Int32.toNatClampNeg x1) v3) w_mB (upd w_mX (Int32.toNatClampNeg v3) ((w_mX (Int32.toNatClampNeg v3)) ||| (1 <<< (x1 &&& 31)))) w_mE).2.2.1) (Int32.toNatClampNeg v3) ((((F_ (x1 + 1) x2 mN mC mH (upd w_mW (Int32.toNatClampNeg x1) v3) w_mB (upd w_mX (Int32.toNatClampNeg v3) ((w_mX (Int32.toNatClampNeg v3)) ||| (1 <<< (x1 &&& 31)))) w_mE).2.2.1) (Int32.toNatClampNeg v3)) ^^^ (1 <<< (x1 &&& 31)))) ((F_ (x1 + 1) x2 mN mC mH (upd w_mW (Int32.toNatClampNeg x1) v3) w_mB (upd w_mX (Int32.toNatClampNeg v3) ((w_mX (Int32.toNatClampNeg v3)) ||| (1 <<< (x1 &&& 31)))) w_mE).2.2.2))))))))))
noncomputable def f_X7_triesS (F_ : Int32 → Int32 → (Nat → Int32) → (Nat → Int32) → (Nat → Int32) → (Nat → Int32) → (Nat → Int32) → (Nat → Int32) → Int32 → (Nat → Int32) × (Nat → Int32) × (Nat → Int32) × Int32) (x1 : Int32) (x2 : Int32) (mN : Nat → Int32) (mC : Nat → Int32) (mH : Nat → Int32) (mW : Nat → Int32) (mB : Nat → Int32) (mX : Nat → Int32) (mE : Int32) : (Nat → Int32) × (Nat → Int32) × (Nat → Int32) × Int32 := (if (mN (Int32.toNatClampNeg 1)) ≤ x1 then (if 1000000 ≤ ((f_X7_triesS_L85 x2 mH mX FU 0 0).1) then (mW, mB, mX, mE) else (if mE < ((f_X7_triesS_L85 x2 mH mX FU 0 0).1) then (mW, mB, mX, mE) else (if ((f_X7_triesS_L85 x2 mH mX FU 0 0).1) = mE then (if (f_X7_isLess mN mC mW mB mX) = 0 then (mW, mB, mX, mE) else (mW, ((f_X7_triesS_L150 mN mC mW mX FU 0 mB ((f_X7_triesS_L85 x2 mH mX FU 0 0).1)).2.1), mX, ((f_X7_triesS_L150 mN mC mW mX FU 0 mB ((f_X7_triesS_L85 x2 mH mX FU 0 0).1)).2.2))) else (mW, ((f_X7_triesS_L150 mN mC mW mX FU 0 mB ((f_X7_triesS_L85 x2 mH mX FU 0 0).1)).2.1), mX, ((f_X7_triesS_L150 mN mC mW mX FU 0 mB ((f_X7_triesS_L85 x2 mH mX FU 0 0).1)).2.2))))) else (((f_X7_triesS_L12 F_ x1 x2 mN mC mH FU 0 mW mB mX mE).2.1), ((f_X7_triesS_L12 F_ x1 x2 mN mC mH FU 0 mW mB mX mE).2.2.1), ((f_X7_triesS_L12 F_ x1 x2 mN mC mH FU 0 mW mB mX mE).2.2.2.1), ((f_X7_triesS_L12 F_ x1 x2 mN mC mH FU 0 mW mB mX mE).2.2.2.2)))
noncomputable def k_X7_triesS (F_ : Int32 → Int32 → (Nat → Int32) → (Nat → Int32) → (Nat → Int32) → (Nat → Int32) → (Nat → Int32) → (Nat → Int32) → Int32 → (Nat → Int32) × (Nat → Int32) × (Nat → Int32) × Int32) (K_ : Int32 → Int32 → (Nat → Int32) → (Nat → Int32) → (Nat → Int32) → (Nat → Int32) → (Nat → Int32) → (Nat → Int32) → Int32 → Prop) (x1 : Int32) (x2 : Int32) (mN : Nat → Int32) (mC : Nat → Int32) (mH : Nat → Int32) (mW : Nat → Int32) (mB : Nat → Int32) (mX : Nat → Int32) (mE : Int32) : Prop := (if (mN (Int32.toNatClampNeg 1)) ≤ x1 then (k_X7_triesS_L85 x2 mH mX FU 0 0 ∧ (if 1000000 ≤ ((f_X7_triesS_L85 x2 mH mX FU 0 0).1) then True else (if mE < ((f_X7_triesS_L85 x2 mH mX FU 0 0).1) then True else (if ((f_X7_triesS_L85 x2 mH mX FU 0 0).1) = mE then (k_X7_isLess mN mC mW mB mX ∧ (if (f_X7_isLess mN mC mW mB mX) = 0 then True else (k_X7_triesS_L150 mN mC mW mX FU 0 mB ((f_X7_triesS_L85 x2 mH mX FU 0 0).1) ∧ True))) else (k_X7_triesS_L150 mN mC mW mX FU 0 mB ((f_X7_triesS_L85 x2 mH mX FU 0 0).1) ∧ True))))) else (k_X7_triesS_L12 F_ K_ x1 x2 mN mC mH FU 0 mW mB mX mE ∧ True))
set_option maxHeartbeats 4000000 in
set_option maxRecDepth 100000 in
theorem c_X7_triesS (l : Launch) (G : BGT) (kk_ : Nat) (F_ : Int32 → Int32 → (Nat → Int32) → (Nat → Int32) → (Nat → Int32) → (Nat → Int32) → (Nat → Int32) → (Nat → Int32) → Int32 → (Nat → Int32) × (Nat → Int32) × (Nat → Int32) × Int32) (K_ : Int32 → Int32 → (Nat → Int32) → (Nat → Int32) → (Nat → Int32) → (Nat → Int32) → (Nat → Int32) → (Nat → Int32) → Int32 → Prop) (hF_ : ∀ (q_m q_mA q_mN q_mR q_mS q_mC q_mH q_mW q_mB q_mX : Nat) (mT : Int32) (mK : Int32) (mZ : Int32) (mO : Int32) (mF : Int32) (mQ : Int32) (mU : Int32) (mG : Int32) (mP : Int32) (mY : Int64) (mV : Int32) (mL : Int32) (mE : Int32) (mN : Nat → Int32) (mC : Nat → Int32) (mH : Nat → Int32) (mW : Nat → Int32) (mB : Nat → Int32) (mX : Nat → Int32) (x1 : Int32) (x2 : Int32), K_ x1 x2 mN mC mH mW mB mX mE → WR l yX7_tries wsX7_tries kk_ G [oX7 q_m mT q_mA mK mZ mO mF mQ mU mG mP mY q_mN q_mR q_mS mV mL q_mC q_mH q_mW q_mB q_mX mE, aI G q_mN 181 mN, aI G q_mC 256 mC, aI G q_mH 256 mH, aI G q_mW 8 mW, aI G q_mB 8 mB, aI G q_mX 8 mX] [oX7 q_m mT q_mA mK mZ mO mF mQ mU mG mP mY q_mN q_mR q_mS mV mL q_mC q_mH q_mW q_mB q_mX ((F_ x1 x2 mN mC mH mW mB mX mE).2.2.2), aI G q_mN 181 mN, aI G q_mC 256 mC, aI G q_mH 256 mH, aI G q_mW 8 ((F_ x1 x2 mN mC mH mW mB mX mE).1), aI G q_mB 8 ((F_ x1 x2 mN mC mH mW mB mX mE).2.1), aI G q_mX 8 ((F_ x1 x2 mN mC mH mW mB mX mE).2.2.1)] [.ref q_m, .int x1, .int x2] none) (q_m q_mA q_mN q_mR q_mS q_mC q_mH q_mW q_mB q_mX : Nat) (mT : Int32) (mK : Int32) (mZ : Int32) (mO : Int32) (mF : Int32) (mQ : Int32) (mU : Int32) (mG : Int32) (mP : Int32) (mY : Int64) (mV : Int32) (mL : Int32) (mE : Int32) (mN : Nat → Int32) (mC : Nat → Int32) (mH : Nat → Int32) (mW : Nat → Int32) (mB : Nat → Int32) (mX : Nat → Int32) (x1 : Int32) (x2 : Int32) (hk : k_X7_triesS F_ K_ x1 x2 mN mC mH mW mB mX mE) : WR l yX7_tries wsX7_tries (kk_ + 2) G [oX7 q_m mT q_mA mK mZ mO mF mQ mU mG mP mY q_mN q_mR q_mS mV mL q_mC q_mH q_mW q_mB q_mX mE, aI G q_mN 181 mN, aI G q_mC 256 mC, aI G q_mH 256 mH, aI G q_mW 8 mW, aI G q_mB 8 mB, aI G q_mX 8 mX] [oX7 q_m mT q_mA mK mZ mO mF mQ mU mG mP mY q_mN q_mR q_mS mV mL q_mC q_mH q_mW q_mB q_mX ((f_X7_triesS F_ x1 x2 mN mC mH mW mB mX mE).2.2.2), aI G q_mN 181 mN, aI G q_mC 256 mC, aI G q_mH 256 mH, aI G q_mW 8 ((f_X7_triesS F_ x1 x2 mN mC mH mW mB mX mE).1), aI G q_mB 8 ((f_X7_triesS F_ x1 x2 mN mC mH mW mB mX mE).2.1), aI G q_mX 8 ((f_X7_triesS F_ x1 x2 mN mC mH mW mB mX mE).2.2.1)] [.ref q_m, .int x1, .int x2] none := by
  refine WR.ofW (cc := cX7_tries) (maxL := 5) (ret := none) (C := RX7) (by decide) rfl rfl (Nat.le_of_ble_eq_true rfl) ?_
  intro p e s m args below meth c Q ls A hx hb hml hts hown hP hD hS hA hB hl fi fv
  have hl : lv_has ls 5 [(0, .ref q_m), (1, .int x1), (2, .int x2)] := hl
  have t_0 := hts (.fieldLink RX7 74 "ParcelSplitModel" "now" "[I") (by decide +kernel)
  have t_1 := hts (.fieldLink RX7 86 "ParcelSplitModel" "charges" "[I") (by decide +kernel)
  have t_2 := hts (.fieldLink RX7 95 "ParcelSplitModel" "sets" "[I") (by decide +kernel)
  have t_3 := hts (.constant RX7 183 (1000000)) (by decide +kernel)
  have t_4 := hts (.fieldLink RX7 188 "ParcelSplitModel" "least" "I") (by decide +kernel)
  have t_5 := hts (.fieldLink RX7 92 "ParcelSplitModel" "best" "[I") (by decide +kernel)
  have t_6 := hts (.fieldLink RX7 89 "ParcelSplitModel" "row" "[I") (by decide +kernel)
  have t_7 := hts (.fieldLink RX7 83 "ParcelSplitModel" "carriers" "[I") (by decide +kernel)
  have i_X7 : ∀ w ∈ wsX70, w ∈ wsX7_tries := by decide +kernel
  rw [k_X7_triesS] at hk
  refine lv_iload_n hx hb dX7_tries_0 rfl (lv_at hl 1 rfl) ?_
  refine lv_aload_n hx hb dX7_tries_1 rfl (lv_at hl 0 rfl) ?_
  refine va_get (D := gD G) (ci := 7) (v := .ref q_mN) (C := RX7) (T := TX7) (N := 22) hx hb hts i_X7 hown hB.1 hP 0 rfl rfl 11 (by decide) t_0 (fun _ h9 => h9) rfl dX7_tries_2 ?_
  refine lv_iconst (v := 1) hx hb dX7_tries_5 (by decide) ?_
  refine va_iald hx hb hB.1 hP 1 1 rfl rfl (by unfold vp_in; decide) dX7_tries_6 ?_
  refine lv_icmp_ge (tgt := 80) hx hb dX7_tries_7 (by decide) (fun c_1 => ?_) (fun c_1 => ?_)
  · rw [if_pos c_1] at hk
    refine lv_iconst (v := 0) hx hb dX7_tries_80 (by decide) ?_
    refine lv_istore_n (lv' := [(3, .int 0), (0, .ref q_m), (1, .int x1), (2, .int x2)]) hx hb dX7_tries_81 rfl hl (by decide) rfl (fun ls hl => ?_)
    refine lv_iconst (v := 0) hx hb dX7_tries_82 (by decide) ?_
    refine lv_istore (lv' := [(4, .int 0), (3, .int 0), (0, .ref q_m), (1, .int x1), (2, .int x2)]) hx hb dX7_tries_83 hl (by decide) rfl (fun ls hl => ?_)
    have L85 : ∀ (n : Nat) (v3 : Int32) (v4 : Int32), k_X7_triesS_L85 x2 mH mX n v3 v4 → ∀ (H : Heap) (locs : List Loc), va_P (gD G) vwCl [oX7 q_m mT q_mA mK mZ mO mF mQ mU mG mP mY q_mN q_mR q_mS mV mL q_mC q_mH q_mW q_mB q_mX mE, aI G q_mN 181 mN, aI G q_mC 256 mC, aI G q_mH 256 mH, aI G q_mW 8 mW, aI G q_mB 8 mB, aI G q_mX 8 mX] H → va_D A [oX7 q_m mT q_mA mK mZ mO mF mQ mU mG mP mY q_mN q_mR q_mS mV mL q_mC q_mH q_mW q_mB q_mX mE, aI G q_mN 181 mN, aI G q_mC 256 mC, aI G q_mH 256 mH, aI G q_mW 8 mW, aI G q_mB 8 mB, aI G q_mX 8 mX] → va_S A s.heap H locs → ∀ (ls : Array Slot), lv_has ls 5 [(0, .ref q_m), (2, .int x2), (3, .int v3), (4, .int v4)] → (∀ (H : Heap) (locs : List Loc), va_P (gD G) vwCl [oX7 q_m mT q_mA mK mZ mO mF mQ mU mG mP mY q_mN q_mR q_mS mV mL q_mC q_mH q_mW q_mB q_mX mE, aI G q_mN 181 mN, aI G q_mC 256 mC, aI G q_mH 256 mH, aI G q_mW 8 mW, aI G q_mB 8 mB, aI G q_mX 8 mX] H → va_D A [oX7 q_m mT q_mA mK mZ mO mF mQ mU mG mP mY q_mN q_mR q_mS mV mL q_mC q_mH q_mW q_mB q_mX mE, aI G q_mN 181 mN, aI G q_mC 256 mC, aI G q_mH 256 mH, aI G q_mW 8 mW, aI G q_mB 8 mB, aI G q_mX 8 mX] → va_S A s.heap H locs → ∀ (ls : Array Slot), lv_has ls 5 [(0, .ref q_m), (2, .int x2), (3, .int ((f_X7_triesS_L85 x2 mH mX n v3 v4).1)), (4, .int ((f_X7_triesS_L85 x2 mH mX n v3 v4).2))] → W p l e (rm (kk_ + 2)) s m args below meth c H locs 0 0 Q (F0 m 112 ls [])) → W p l e (rm (kk_ + 2)) s m args below meth c H locs 0 0 Q (F0 m 85 ls []) := by
      intro n
      induction n with
      | zero => intro v3 v4 hk; exact (hk : False).elim
      | succ n ih =>
        intro v3 v4 hk H locs hP hD hS ls hl kk
        rw [k_X7_triesS_L85] at hk
        refine lv_iload hx hb dX7_tries_85 (lv_at hl 3 rfl) ?_
        refine lv_iload_n hx hb dX7_tries_87 rfl (lv_at hl 1 rfl) ?_
        refine lv_icmp_ge (tgt := 112) hx hb dX7_tries_88 (by decide) (fun c_2 => ?_) (fun c_2 => ?_)
        · rw [if_pos c_2] at hk
          have e9 : f_X7_triesS_L85 x2 mH mX (n + 1) v3 v4 = (v3, v4) := by rw [f_X7_triesS_L85, if_pos c_2]
          rw [e9] at kk
          exact kk _ _ hP hD hS ls (lv_sub hl [0, 1, 2, 3] rfl)
        · rw [if_neg c_2] at hk
          refine lv_iload_n hx hb dX7_tries_91 rfl (lv_at hl 2 rfl) ?_
          refine lv_aload_n hx hb dX7_tries_92 rfl (lv_at hl 0 rfl) ?_
          refine va_get (D := gD G) (ci := 7) (v := .ref q_mH) (C := RX7) (T := TX7) (N := 22) hx hb hts i_X7 hown hB.1 hP 0 rfl rfl 17 (by decide) t_1 (fun _ h9 => h9) rfl dX7_tries_93 ?_
          refine lv_aload_n hx hb dX7_tries_96 rfl (lv_at hl 0 rfl) ?_
          refine va_get (D := gD G) (ci := 7) (v := .ref q_mX) (C := RX7) (T := TX7) (N := 22) hx hb hts i_X7 hown hB.1 hP 0 rfl rfl 20 (by decide) t_2 (fun _ h9 => h9) rfl dX7_tries_97 ?_
          refine lv_iload hx hb dX7_tries_100 (lv_at hl 3 rfl) ?_
          obtain ⟨o_3, hk⟩ := hk
          refine va_iald hx hb hB.1 hP 6 1 rfl rfl o_3 dX7_tries_102 ?_
          obtain ⟨o_4, hk⟩ := hk
          refine va_iald hx hb hB.1 hP 3 1 rfl rfl o_4 dX7_tries_103 ?_
          refine lv_iadd hx hb dX7_tries_104 ?_
          refine lv_istore_n (lv' := [(3, .int (v3 + (mH (Int32.toNatClampNeg (mX (Int32.toNatClampNeg v4)))))), (0, .ref q_m), (2, .int x2), (4, .int v4)]) hx hb dX7_tries_105 rfl hl (by decide) rfl (fun ls hl => ?_)
          refine lv_iinc (v := (v4 + 1)) (lv' := [(4, .int (v4 + 1)), (3, .int (v3 + (mH (Int32.toNatClampNeg (mX (Int32.toNatClampNeg v4)))))), (0, .ref q_m), (2, .int x2)]) hx hb dX7_tries_106 hl (k := 3) rfl (by rfl) (by decide) rfl (fun ls hl => ?_)
          refine lv_goto (tgt := 85) hx hb dX7_tries_109 (by decide) ?_
          have e9 : f_X7_triesS_L85 x2 mH mX (n + 1) v3 v4 = f_X7_triesS_L85 x2 mH mX n (v3 + (mH (Int32.toNatClampNeg (mX (Int32.toNatClampNeg v4))))) (v4 + 1) := by rw [f_X7_triesS_L85, if_neg c_2]
          rw [e9] at kk
          exact ih (v3 + (mH (Int32.toNatClampNeg (mX (Int32.toNatClampNeg v4))))) (v4 + 1) hk _ _ hP hD hS ls (lv_sub hl [2, 3, 1, 0] rfl) kk
    obtain ⟨hkL, hk⟩ := hk
    refine L85 FU 0 0 hkL _ _ hP hD hS ls (lv_sub hl [2, 4, 1, 0] rfl) (fun H locs hP hD hS ls hl => ?_)
    have hP : va_P (gD G) vwCl [oX7 q_m mT q_mA mK mZ mO mF mQ mU mG mP mY q_mN q_mR q_mS mV mL q_mC q_mH q_mW q_mB q_mX mE, aI G q_mN 181 mN, aI G q_mC 256 mC, aI G q_mH 256 mH, aI G q_mW 8 mW, aI G q_mB 8 mB, aI G q_mX 8 mX] H := hP
    have hD : va_D A [oX7 q_m mT q_mA mK mZ mO mF mQ mU mG mP mY q_mN q_mR q_mS mV mL q_mC q_mH q_mW q_mB q_mX mE, aI G q_mN 181 mN, aI G q_mC 256 mC, aI G q_mH 256 mH, aI G q_mW 8 mW, aI G q_mB 8 mB, aI G q_mX 8 mX] := hD
    refine lv_iload_n hx hb dX7_tries_112 rfl (lv_at hl 2 rfl) ?_
    refine lv_ldc (v := 1000000) hx hb hown t_3 dX7_tries_113 ?_
    refine lv_icmp_ge (tgt := 141) hx hb dX7_tries_115 (by decide) (fun c_5 => ?_) (fun c_5 => ?_)
    · rw [if_pos c_5] at hk
      have e9 : f_X7_triesS F_ x1 x2 mN mC mH mW mB mX mE = (mW, mB, mX, mE) := by rw [f_X7_triesS, if_pos c_1, if_pos c_5]
      exact fv 141 _ _ _ rfl dX7_tries_141 rfl (by rw [e9]; exact hP) (by rw [e9]; exact hD) hS
    · rw [if_neg c_5] at hk
      refine lv_iload_n hx hb dX7_tries_118 rfl (lv_at hl 2 rfl) ?_
      refine lv_aload_n hx hb dX7_tries_119 rfl (lv_at hl 0 rfl) ?_
      refine va_get (D := gD G) (ci := 7) (v := .int mE) (C := RX7) (T := TX7) (N := 22) hx hb hts i_X7 hown hB.1 hP 0 rfl rfl 21 (by decide) t_4 (fun _ h9 => h9) rfl dX7_tries_120 ?_
      refine lv_icmp_gt (tgt := 141) hx hb dX7_tries_123 (by decide) (fun c_6 => ?_) (fun c_6 => ?_)
      · rw [if_pos c_6] at hk
        have e9 : f_X7_triesS F_ x1 x2 mN mC mH mW mB mX mE = (mW, mB, mX, mE) := by rw [f_X7_triesS, if_pos c_1, if_neg c_5, if_pos c_6]
        exact fv 141 _ _ _ rfl dX7_tries_141 rfl (by rw [e9]; exact hP) (by rw [e9]; exact hD) hS
      · rw [if_neg c_6] at hk
        refine lv_iload_n hx hb dX7_tries_126 rfl (lv_at hl 2 rfl) ?_
        refine lv_aload_n hx hb dX7_tries_127 rfl (lv_at hl 0 rfl) ?_
        refine va_get (D := gD G) (ci := 7) (v := .int mE) (C := RX7) (T := TX7) (N := 22) hx hb hts i_X7 hown hB.1 hP 0 rfl rfl 21 (by decide) t_4 (fun _ h9 => h9) rfl dX7_tries_128 ?_
        refine lv_icmp_ne (tgt := 142) hx hb dX7_tries_131 (by decide) (fun c_7 => ?_) (fun c_7 => ?_)
        · rw [if_neg c_7] at hk
          refine lv_aload_n hx hb dX7_tries_142 rfl (lv_at hl 0 rfl) ?_
          refine lv_iload_n hx hb dX7_tries_143 rfl (lv_at hl 2 rfl) ?_
          refine va_put (D := gD G) (ci := 7) (v := .int ((f_X7_triesS_L85 x2 mH mX FU 0 0).1)) (ty := .int) (C := RX7) (T := TX7) (N := 22) hx hb hts i_X7 tyX7 tyX7_ok nmX7 hown hB.1 hP hD hS 0 rfl rfl 21 (by decide) t_4 (fun _ h9 => h9) rfl (by decide +kernel) rfl rfl (Nat.le_of_ble_eq_true rfl) dX7_tries_144 (fun H locs hP hD hS => ?_)
          have hP : va_P (gD G) vwCl [oX7 q_m mT q_mA mK mZ mO mF mQ mU mG mP mY q_mN q_mR q_mS mV mL q_mC q_mH q_mW q_mB q_mX ((f_X7_triesS_L85 x2 mH mX FU 0 0).1), aI G q_mN 181 mN, aI G q_mC 256 mC, aI G q_mH 256 mH, aI G q_mW 8 mW, aI G q_mB 8 mB, aI G q_mX 8 mX] H := hP
          have hD : va_D A [oX7 q_m mT q_mA mK mZ mO mF mQ mU mG mP mY q_mN q_mR q_mS mV mL q_mC q_mH q_mW q_mB q_mX ((f_X7_triesS_L85 x2 mH mX FU 0 0).1), aI G q_mN 181 mN, aI G q_mC 256 mC, aI G q_mH 256 mH, aI G q_mW 8 mW, aI G q_mB 8 mB, aI G q_mX 8 mX] := hD
          refine lv_iconst (v := 0) hx hb dX7_tries_147 (by decide) ?_
          refine lv_istore (lv' := [(4, .int 0), (0, .ref q_m), (2, .int x2), (3, .int ((f_X7_triesS_L85 x2 mH mX FU 0 0).1))]) hx hb dX7_tries_148 hl (by decide) rfl (fun ls hl => ?_)
          have L150 : ∀ (n : Nat) (v4 : Int32) (w_mB : Nat → Int32) (w_mE : Int32), k_X7_triesS_L150 mN mC mW mX n v4 w_mB w_mE → ∀ (H : Heap) (locs : List Loc), va_P (gD G) vwCl [oX7 q_m mT q_mA mK mZ mO mF mQ mU mG mP mY q_mN q_mR q_mS mV mL q_mC q_mH q_mW q_mB q_mX w_mE, aI G q_mN 181 mN, aI G q_mC 256 mC, aI G q_mH 256 mH, aI G q_mW 8 mW, aI G q_mB 8 w_mB, aI G q_mX 8 mX] H → va_D A [oX7 q_m mT q_mA mK mZ mO mF mQ mU mG mP mY q_mN q_mR q_mS mV mL q_mC q_mH q_mW q_mB q_mX w_mE, aI G q_mN 181 mN, aI G q_mC 256 mC, aI G q_mH 256 mH, aI G q_mW 8 mW, aI G q_mB 8 w_mB, aI G q_mX 8 mX] → va_S A s.heap H locs → ∀ (ls : Array Slot), lv_has ls 5 [(0, .ref q_m), (4, .int v4)] → (∀ (H : Heap) (locs : List Loc), va_P (gD G) vwCl [oX7 q_m mT q_mA mK mZ mO mF mQ mU mG mP mY q_mN q_mR q_mS mV mL q_mC q_mH q_mW q_mB q_mX ((f_X7_triesS_L150 mN mC mW mX n v4 w_mB w_mE).2.2), aI G q_mN 181 mN, aI G q_mC 256 mC, aI G q_mH 256 mH, aI G q_mW 8 mW, aI G q_mB 8 ((f_X7_triesS_L150 mN mC mW mX n v4 w_mB w_mE).2.1), aI G q_mX 8 mX] H → va_D A [oX7 q_m mT q_mA mK mZ mO mF mQ mU mG mP mY q_mN q_mR q_mS mV mL q_mC q_mH q_mW q_mB q_mX ((f_X7_triesS_L150 mN mC mW mX n v4 w_mB w_mE).2.2), aI G q_mN 181 mN, aI G q_mC 256 mC, aI G q_mH 256 mH, aI G q_mW 8 mW, aI G q_mB 8 ((f_X7_triesS_L150 mN mC mW mX n v4 w_mB w_mE).2.1), aI G q_mX 8 mX] → va_S A s.heap H locs → ∀ (ls : Array Slot), lv_has ls 5 [(0, .ref q_m), (4, .int ((f_X7_triesS_L150 mN mC mW mX n v4 w_mB w_mE).1))] → W p l e (rm (kk_ + 2)) s m args below meth c H locs 0 0 Q (F0 m 201 ls [])) → W p l e (rm (kk_ + 2)) s m args below meth c H locs 0 0 Q (F0 m 150 ls []) := by
            intro n
            induction n with
            | zero => intro v4 w_mB w_mE hk; exact (hk : False).elim
            | succ n ih =>
              intro v4 w_mB w_mE hk H locs hP hD hS ls hl kk
              rw [k_X7_triesS_L150] at hk
              refine lv_iload hx hb dX7_tries_150 (lv_at hl 1 rfl) ?_
              refine lv_aload_n hx hb dX7_tries_152 rfl (lv_at hl 0 rfl) ?_
              refine va_get (D := gD G) (ci := 7) (v := .ref q_mN) (C := RX7) (T := TX7) (N := 22) hx hb hts i_X7 hown hB.1 hP 0 rfl rfl 11 (by decide) t_0 (fun _ h9 => h9) rfl dX7_tries_153 ?_
              refine lv_iconst (v := 1) hx hb dX7_tries_156 (by decide) ?_
              refine va_iald hx hb hB.1 hP 1 1 rfl rfl (by unfold vp_in; decide) dX7_tries_157 ?_
              refine lv_icmp_ge (tgt := 201) hx hb dX7_tries_158 (by decide) (fun c_8 => ?_) (fun c_8 => ?_)
              · rw [if_pos c_8] at hk
                have e9 : f_X7_triesS_L150 mN mC mW mX (n + 1) v4 w_mB w_mE = (v4, w_mB, w_mE) := by rw [f_X7_triesS_L150, if_pos c_8]
                rw [e9] at kk
                exact kk _ _ hP hD hS ls (lv_sub hl [0, 1] rfl)
              · rw [if_neg c_8] at hk
                refine lv_aload_n hx hb dX7_tries_161 rfl (lv_at hl 0 rfl) ?_
                refine va_get (D := gD G) (ci := 7) (v := .ref q_mB) (C := RX7) (T := TX7) (N := 22) hx hb hts i_X7 hown hB.1 hP 0 rfl rfl 19 (by decide) t_5 (fun _ h9 => h9) rfl dX7_tries_162 ?_
                refine lv_iload hx hb dX7_tries_165 (lv_at hl 1 rfl) ?_
                refine lv_iconst (v := 3) hx hb dX7_tries_167 (by decide) ?_
                refine lv_aload_n hx hb dX7_tries_168 rfl (lv_at hl 0 rfl) ?_
                refine va_get (D := gD G) (ci := 7) (v := .ref q_mW) (C := RX7) (T := TX7) (N := 22) hx hb hts i_X7 hown hB.1 hP 0 rfl rfl 18 (by decide) t_6 (fun _ h9 => h9) rfl dX7_tries_169 ?_
                refine lv_iload hx hb dX7_tries_172 (lv_at hl 1 rfl) ?_
                obtain ⟨o_9, hk⟩ := hk
                refine va_iald hx hb hB.1 hP 4 1 rfl rfl o_9 dX7_tries_174 ?_
                refine lv_imul hx hb dX7_tries_175 ?_
                refine lv_aload_n hx hb dX7_tries_176 rfl (lv_at hl 0 rfl) ?_
                refine va_get (D := gD G) (ci := 7) (v := .ref q_mC) (C := RX7) (T := TX7) (N := 22) hx hb hts i_X7 hown hB.1 hP 0 rfl rfl 16 (by decide) t_7 (fun _ h9 => h9) rfl dX7_tries_177 ?_
                refine lv_aload_n hx hb dX7_tries_180 rfl (lv_at hl 0 rfl) ?_
                refine va_get (D := gD G) (ci := 7) (v := .ref q_mX) (C := RX7) (T := TX7) (N := 22) hx hb hts i_X7 hown hB.1 hP 0 rfl rfl 20 (by decide) t_2 (fun _ h9 => h9) rfl dX7_tries_181 ?_
                refine lv_aload_n hx hb dX7_tries_184 rfl (lv_at hl 0 rfl) ?_
                refine va_get (D := gD G) (ci := 7) (v := .ref q_mW) (C := RX7) (T := TX7) (N := 22) hx hb hts i_X7 hown hB.1 hP 0 rfl rfl 18 (by decide) t_6 (fun _ h9 => h9) rfl dX7_tries_185 ?_
                refine lv_iload hx hb dX7_tries_188 (lv_at hl 1 rfl) ?_
                obtain ⟨o_10, hk⟩ := hk
                refine va_iald hx hb hB.1 hP 4 1 rfl rfl o_10 dX7_tries_190 ?_
                obtain ⟨o_11, hk⟩ := hk
                refine va_iald hx hb hB.1 hP 6 1 rfl rfl o_11 dX7_tries_191 ?_
                obtain ⟨o_12, hk⟩ := hk
                refine va_iald hx hb hB.1 hP 2 1 rfl rfl o_12 dX7_tries_192 ?_
                refine lv_iadd hx hb dX7_tries_193 ?_
                obtain ⟨o_13, hk⟩ := hk
                refine va_iast hx hb hB.1 hP hD hS 5 1 rfl rfl o_13 dX7_tries_194 (fun H locs hP hD hS => ?_)
                have hP : va_P (gD G) vwCl [oX7 q_m mT q_mA mK mZ mO mF mQ mU mG mP mY q_mN q_mR q_mS mV mL q_mC q_mH q_mW q_mB q_mX w_mE, aI G q_mN 181 mN, aI G q_mC 256 mC, aI G q_mH 256 mH, aI G q_mW 8 mW, aI G q_mB 8 (upd w_mB (Int32.toNatClampNeg v4) ((3 * (mW (Int32.toNatClampNeg v4))) + (mC (Int32.toNatClampNeg (mX (Int32.toNatClampNeg (mW (Int32.toNatClampNeg v4)))))))), aI G q_mX 8 mX] H := hP
                have hD : va_D A [oX7 q_m mT q_mA mK mZ mO mF mQ mU mG mP mY q_mN q_mR q_mS mV mL q_mC q_mH q_mW q_mB q_mX w_mE, aI G q_mN 181 mN, aI G q_mC 256 mC, aI G q_mH 256 mH, aI G q_mW 8 mW, aI G q_mB 8 (upd w_mB (Int32.toNatClampNeg v4) ((3 * (mW (Int32.toNatClampNeg v4))) + (mC (Int32.toNatClampNeg (mX (Int32.toNatClampNeg (mW (Int32.toNatClampNeg v4)))))))), aI G q_mX 8 mX] := hD
                refine lv_iinc (v := (v4 + 1)) (lv' := [(4, .int (v4 + 1)), (0, .ref q_m)]) hx hb dX7_tries_195 hl (k := 1) rfl (by rfl) (by decide) rfl (fun ls hl => ?_)
                refine lv_goto (tgt := 150) hx hb dX7_tries_198 (by decide) ?_
                have e9 : f_X7_triesS_L150 mN mC mW mX (n + 1) v4 w_mB w_mE = f_X7_triesS_L150 mN mC mW mX n (v4 + 1) (upd w_mB (Int32.toNatClampNeg v4) ((3 * (mW (Int32.toNatClampNeg v4))) + (mC (Int32.toNatClampNeg (mX (Int32.toNatClampNeg (mW (Int32.toNatClampNeg v4)))))))) w_mE := by rw [f_X7_triesS_L150, if_neg c_8]
                rw [e9] at kk
                exact ih (v4 + 1) (upd w_mB (Int32.toNatClampNeg v4) ((3 * (mW (Int32.toNatClampNeg v4))) + (mC (Int32.toNatClampNeg (mX (Int32.toNatClampNeg (mW (Int32.toNatClampNeg v4)))))))) w_mE hk _ _ hP hD hS ls (lv_sub hl [1, 0] rfl) kk
          obtain ⟨hkL, hk⟩ := hk
          refine L150 FU 0 mB ((f_X7_triesS_L85 x2 mH mX FU 0 0).1) hkL _ _ hP hD hS ls (lv_sub hl [1, 0] rfl) (fun H locs hP hD hS ls hl => ?_)
          have hP : va_P (gD G) vwCl [oX7 q_m mT q_mA mK mZ mO mF mQ mU mG mP mY q_mN q_mR q_mS mV mL q_mC q_mH q_mW q_mB q_mX ((f_X7_triesS_L150 mN mC mW mX FU 0 mB ((f_X7_triesS_L85 x2 mH mX FU 0 0).1)).2.2), aI G q_mN 181 mN, aI G q_mC 256 mC, aI G q_mH 256 mH, aI G q_mW 8 mW, aI G q_mB 8 ((f_X7_triesS_L150 mN mC mW mX FU 0 mB ((f_X7_triesS_L85 x2 mH mX FU 0 0).1)).2.1), aI G q_mX 8 mX] H := hP
          have hD : va_D A [oX7 q_m mT q_mA mK mZ mO mF mQ mU mG mP mY q_mN q_mR q_mS mV mL q_mC q_mH q_mW q_mB q_mX ((f_X7_triesS_L150 mN mC mW mX FU 0 mB ((f_X7_triesS_L85 x2 mH mX FU 0 0).1)).2.2), aI G q_mN 181 mN, aI G q_mC 256 mC, aI G q_mH 256 mH, aI G q_mW 8 mW, aI G q_mB 8 ((f_X7_triesS_L150 mN mC mW mX FU 0 mB ((f_X7_triesS_L85 x2 mH mX FU 0 0).1)).2.1), aI G q_mX 8 mX] := hD
          have e9 : f_X7_triesS F_ x1 x2 mN mC mH mW mB mX mE = (mW, ((f_X7_triesS_L150 mN mC mW mX FU 0 mB ((f_X7_triesS_L85 x2 mH mX FU 0 0).1)).2.1), mX, ((f_X7_triesS_L150 mN mC mW mX FU 0 mB ((f_X7_triesS_L85 x2 mH mX FU 0 0).1)).2.2)) := by rw [f_X7_triesS, if_pos c_1, if_neg c_5, if_neg c_6, if_neg c_7]
          exact fv 201 _ _ _ rfl dX7_tries_201 rfl (by rw [e9]; exact hP) (by rw [e9]; exact hD) hS
        · rw [if_pos c_7] at hk
          refine lv_aload_n hx hb dX7_tries_134 rfl (lv_at hl 0 rfl) ?_
          obtain ⟨o_14, hk⟩ := hk
          refine ro_V (ci := 7) (q0 := 0) (As := []) (rest := []) (c_X7_isLess l G q_m q_mA q_mN q_mR q_mS q_mC q_mH q_mW q_mB q_mX mT mK mZ mO mF mQ mU mG mP mY mV mL mE mN mC mW mB mX o_14) [0, 1, 2, 4, 5, 6] rfl rfl rfl rfl gX7_tries_X7_isLess ⟨_, rfl⟩ hd_X7_isLess rfl dX7_tries_135 rfl rfl (Nat.le_of_ble_eq_true rfl) ⟨(by show _ ≤ kk_ + 2; omega), (by show _ ≤ 40 * (kk_ + 2); omega)⟩ ⟨Nat.le_refl 0, Nat.le_refl 0⟩ hx hb hml hown hts hB hS hP hl.1 ?_
          refine W.eq (g2 := F0 m 138 ls [.int (f_X7_isLess mN mC mW mB mX)]) rfl ?_
          refine lv_if_ne (tgt := 142) hx hb dX7_tries_138 (by decide) (fun c_15 => ?_) (fun c_15 => ?_)
          · rw [if_neg c_15] at hk
            refine lv_aload_n hx hb dX7_tries_142 rfl (lv_at hl 0 rfl) ?_
            refine lv_iload_n hx hb dX7_tries_143 rfl (lv_at hl 2 rfl) ?_
            refine va_put (D := gD G) (ci := 7) (v := .int ((f_X7_triesS_L85 x2 mH mX FU 0 0).1)) (ty := .int) (C := RX7) (T := TX7) (N := 22) hx hb hts i_X7 tyX7 tyX7_ok nmX7 hown hB.1 hP hD hS 0 rfl rfl 21 (by decide) t_4 (fun _ h9 => h9) rfl (by decide +kernel) rfl rfl (Nat.le_of_ble_eq_true rfl) dX7_tries_144 (fun H locs hP hD hS => ?_)
            have hP : va_P (gD G) vwCl [oX7 q_m mT q_mA mK mZ mO mF mQ mU mG mP mY q_mN q_mR q_mS mV mL q_mC q_mH q_mW q_mB q_mX ((f_X7_triesS_L85 x2 mH mX FU 0 0).1), aI G q_mN 181 mN, aI G q_mC 256 mC, aI G q_mH 256 mH, aI G q_mW 8 mW, aI G q_mB 8 mB, aI G q_mX 8 mX] H := hP
            have hD : va_D A [oX7 q_m mT q_mA mK mZ mO mF mQ mU mG mP mY q_mN q_mR q_mS mV mL q_mC q_mH q_mW q_mB q_mX ((f_X7_triesS_L85 x2 mH mX FU 0 0).1), aI G q_mN 181 mN, aI G q_mC 256 mC, aI G q_mH 256 mH, aI G q_mW 8 mW, aI G q_mB 8 mB, aI G q_mX 8 mX] := hD
            refine lv_iconst (v := 0) hx hb dX7_tries_147 (by decide) ?_
            refine lv_istore (lv' := [(4, .int 0), (0, .ref q_m), (2, .int x2), (3, .int ((f_X7_triesS_L85 x2 mH mX FU 0 0).1))]) hx hb dX7_tries_148 hl (by decide) rfl (fun ls hl => ?_)
            have L150 : ∀ (n : Nat) (v4 : Int32) (w_mB : Nat → Int32) (w_mE : Int32), k_X7_triesS_L150 mN mC mW mX n v4 w_mB w_mE → ∀ (H : Heap) (locs : List Loc), va_P (gD G) vwCl [oX7 q_m mT q_mA mK mZ mO mF mQ mU mG mP mY q_mN q_mR q_mS mV mL q_mC q_mH q_mW q_mB q_mX w_mE, aI G q_mN 181 mN, aI G q_mC 256 mC, aI G q_mH 256 mH, aI G q_mW 8 mW, aI G q_mB 8 w_mB, aI G q_mX 8 mX] H → va_D A [oX7 q_m mT q_mA mK mZ mO mF mQ mU mG mP mY q_mN q_mR q_mS mV mL q_mC q_mH q_mW q_mB q_mX w_mE, aI G q_mN 181 mN, aI G q_mC 256 mC, aI G q_mH 256 mH, aI G q_mW 8 mW, aI G q_mB 8 w_mB, aI G q_mX 8 mX] → va_S A s.heap H locs → ∀ (ls : Array Slot), lv_has ls 5 [(0, .ref q_m), (4, .int v4)] → (∀ (H : Heap) (locs : List Loc), va_P (gD G) vwCl [oX7 q_m mT q_mA mK mZ mO mF mQ mU mG mP mY q_mN q_mR q_mS mV mL q_mC q_mH q_mW q_mB q_mX ((f_X7_triesS_L150 mN mC mW mX n v4 w_mB w_mE).2.2), aI G q_mN 181 mN, aI G q_mC 256 mC, aI G q_mH 256 mH, aI G q_mW 8 mW, aI G q_mB 8 ((f_X7_triesS_L150 mN mC mW mX n v4 w_mB w_mE).2.1), aI G q_mX 8 mX] H → va_D A [oX7 q_m mT q_mA mK mZ mO mF mQ mU mG mP mY q_mN q_mR q_mS mV mL q_mC q_mH q_mW q_mB q_mX ((f_X7_triesS_L150 mN mC mW mX n v4 w_mB w_mE).2.2), aI G q_mN 181 mN, aI G q_mC 256 mC, aI G q_mH 256 mH, aI G q_mW 8 mW, aI G q_mB 8 ((f_X7_triesS_L150 mN mC mW mX n v4 w_mB w_mE).2.1), aI G q_mX 8 mX] → va_S A s.heap H locs → ∀ (ls : Array Slot), lv_has ls 5 [(0, .ref q_m), (4, .int ((f_X7_triesS_L150 mN mC mW mX n v4 w_mB w_mE).1))] → W p l e (rm (kk_ + 2)) s m args below meth c H locs 0 0 Q (F0 m 201 ls [])) → W p l e (rm (kk_ + 2)) s m args below meth c H locs 0 0 Q (F0 m 150 ls []) := by
              intro n
              induction n with
              | zero => intro v4 w_mB w_mE hk; exact (hk : False).elim
              | succ n ih =>
                intro v4 w_mB w_mE hk H locs hP hD hS ls hl kk
                rw [k_X7_triesS_L150] at hk
                refine lv_iload hx hb dX7_tries_150 (lv_at hl 1 rfl) ?_
                refine lv_aload_n hx hb dX7_tries_152 rfl (lv_at hl 0 rfl) ?_
                refine va_get (D := gD G) (ci := 7) (v := .ref q_mN) (C := RX7) (T := TX7) (N := 22) hx hb hts i_X7 hown hB.1 hP 0 rfl rfl 11 (by decide) t_0 (fun _ h9 => h9) rfl dX7_tries_153 ?_
                refine lv_iconst (v := 1) hx hb dX7_tries_156 (by decide) ?_
                refine va_iald hx hb hB.1 hP 1 1 rfl rfl (by unfold vp_in; decide) dX7_tries_157 ?_
                refine lv_icmp_ge (tgt := 201) hx hb dX7_tries_158 (by decide) (fun c_16 => ?_) (fun c_16 => ?_)
                · rw [if_pos c_16] at hk
                  have e9 : f_X7_triesS_L150 mN mC mW mX (n + 1) v4 w_mB w_mE = (v4, w_mB, w_mE) := by rw [f_X7_triesS_L150, if_pos c_16]
                  rw [e9] at kk
                  exact kk _ _ hP hD hS ls (lv_sub hl [0, 1] rfl)
                · rw [if_neg c_16] at hk
                  refine lv_aload_n hx hb dX7_tries_161 rfl (lv_at hl 0 rfl) ?_
                  refine va_get (D := gD G) (ci := 7) (v := .ref q_mB) (C := RX7) (T := TX7) (N := 22) hx hb hts i_X7 hown hB.1 hP 0 rfl rfl 19 (by decide) t_5 (fun _ h9 => h9) rfl dX7_tries_162 ?_
                  refine lv_iload hx hb dX7_tries_165 (lv_at hl 1 rfl) ?_
                  refine lv_iconst (v := 3) hx hb dX7_tries_167 (by decide) ?_
                  refine lv_aload_n hx hb dX7_tries_168 rfl (lv_at hl 0 rfl) ?_
                  refine va_get (D := gD G) (ci := 7) (v := .ref q_mW) (C := RX7) (T := TX7) (N := 22) hx hb hts i_X7 hown hB.1 hP 0 rfl rfl 18 (by decide) t_6 (fun _ h9 => h9) rfl dX7_tries_169 ?_
                  refine lv_iload hx hb dX7_tries_172 (lv_at hl 1 rfl) ?_
                  obtain ⟨o_17, hk⟩ := hk
                  refine va_iald hx hb hB.1 hP 4 1 rfl rfl o_17 dX7_tries_174 ?_
                  refine lv_imul hx hb dX7_tries_175 ?_
                  refine lv_aload_n hx hb dX7_tries_176 rfl (lv_at hl 0 rfl) ?_
                  refine va_get (D := gD G) (ci := 7) (v := .ref q_mC) (C := RX7) (T := TX7) (N := 22) hx hb hts i_X7 hown hB.1 hP 0 rfl rfl 16 (by decide) t_7 (fun _ h9 => h9) rfl dX7_tries_177 ?_
                  refine lv_aload_n hx hb dX7_tries_180 rfl (lv_at hl 0 rfl) ?_
                  refine va_get (D := gD G) (ci := 7) (v := .ref q_mX) (C := RX7) (T := TX7) (N := 22) hx hb hts i_X7 hown hB.1 hP 0 rfl rfl 20 (by decide) t_2 (fun _ h9 => h9) rfl dX7_tries_181 ?_
                  refine lv_aload_n hx hb dX7_tries_184 rfl (lv_at hl 0 rfl) ?_
                  refine va_get (D := gD G) (ci := 7) (v := .ref q_mW) (C := RX7) (T := TX7) (N := 22) hx hb hts i_X7 hown hB.1 hP 0 rfl rfl 18 (by decide) t_6 (fun _ h9 => h9) rfl dX7_tries_185 ?_
                  refine lv_iload hx hb dX7_tries_188 (lv_at hl 1 rfl) ?_
                  obtain ⟨o_18, hk⟩ := hk
                  refine va_iald hx hb hB.1 hP 4 1 rfl rfl o_18 dX7_tries_190 ?_
                  obtain ⟨o_19, hk⟩ := hk
                  refine va_iald hx hb hB.1 hP 6 1 rfl rfl o_19 dX7_tries_191 ?_
                  obtain ⟨o_20, hk⟩ := hk
                  refine va_iald hx hb hB.1 hP 2 1 rfl rfl o_20 dX7_tries_192 ?_
                  refine lv_iadd hx hb dX7_tries_193 ?_
                  obtain ⟨o_21, hk⟩ := hk
                  refine va_iast hx hb hB.1 hP hD hS 5 1 rfl rfl o_21 dX7_tries_194 (fun H locs hP hD hS => ?_)
                  have hP : va_P (gD G) vwCl [oX7 q_m mT q_mA mK mZ mO mF mQ mU mG mP mY q_mN q_mR q_mS mV mL q_mC q_mH q_mW q_mB q_mX w_mE, aI G q_mN 181 mN, aI G q_mC 256 mC, aI G q_mH 256 mH, aI G q_mW 8 mW, aI G q_mB 8 (upd w_mB (Int32.toNatClampNeg v4) ((3 * (mW (Int32.toNatClampNeg v4))) + (mC (Int32.toNatClampNeg (mX (Int32.toNatClampNeg (mW (Int32.toNatClampNeg v4)))))))), aI G q_mX 8 mX] H := hP
                  have hD : va_D A [oX7 q_m mT q_mA mK mZ mO mF mQ mU mG mP mY q_mN q_mR q_mS mV mL q_mC q_mH q_mW q_mB q_mX w_mE, aI G q_mN 181 mN, aI G q_mC 256 mC, aI G q_mH 256 mH, aI G q_mW 8 mW, aI G q_mB 8 (upd w_mB (Int32.toNatClampNeg v4) ((3 * (mW (Int32.toNatClampNeg v4))) + (mC (Int32.toNatClampNeg (mX (Int32.toNatClampNeg (mW (Int32.toNatClampNeg v4)))))))), aI G q_mX 8 mX] := hD
                  refine lv_iinc (v := (v4 + 1)) (lv' := [(4, .int (v4 + 1)), (0, .ref q_m)]) hx hb dX7_tries_195 hl (k := 1) rfl (by rfl) (by decide) rfl (fun ls hl => ?_)
                  refine lv_goto (tgt := 150) hx hb dX7_tries_198 (by decide) ?_
                  have e9 : f_X7_triesS_L150 mN mC mW mX (n + 1) v4 w_mB w_mE = f_X7_triesS_L150 mN mC mW mX n (v4 + 1) (upd w_mB (Int32.toNatClampNeg v4) ((3 * (mW (Int32.toNatClampNeg v4))) + (mC (Int32.toNatClampNeg (mX (Int32.toNatClampNeg (mW (Int32.toNatClampNeg v4)))))))) w_mE := by rw [f_X7_triesS_L150, if_neg c_16]
                  rw [e9] at kk
                  exact ih (v4 + 1) (upd w_mB (Int32.toNatClampNeg v4) ((3 * (mW (Int32.toNatClampNeg v4))) + (mC (Int32.toNatClampNeg (mX (Int32.toNatClampNeg (mW (Int32.toNatClampNeg v4)))))))) w_mE hk _ _ hP hD hS ls (lv_sub hl [1, 0] rfl) kk
            obtain ⟨hkL, hk⟩ := hk
            refine L150 FU 0 mB ((f_X7_triesS_L85 x2 mH mX FU 0 0).1) hkL _ _ hP hD hS ls (lv_sub hl [1, 0] rfl) (fun H locs hP hD hS ls hl => ?_)
            have hP : va_P (gD G) vwCl [oX7 q_m mT q_mA mK mZ mO mF mQ mU mG mP mY q_mN q_mR q_mS mV mL q_mC q_mH q_mW q_mB q_mX ((f_X7_triesS_L150 mN mC mW mX FU 0 mB ((f_X7_triesS_L85 x2 mH mX FU 0 0).1)).2.2), aI G q_mN 181 mN, aI G q_mC 256 mC, aI G q_mH 256 mH, aI G q_mW 8 mW, aI G q_mB 8 ((f_X7_triesS_L150 mN mC mW mX FU 0 mB ((f_X7_triesS_L85 x2 mH mX FU 0 0).1)).2.1), aI G q_mX 8 mX] H := hP
            have hD : va_D A [oX7 q_m mT q_mA mK mZ mO mF mQ mU mG mP mY q_mN q_mR q_mS mV mL q_mC q_mH q_mW q_mB q_mX ((f_X7_triesS_L150 mN mC mW mX FU 0 mB ((f_X7_triesS_L85 x2 mH mX FU 0 0).1)).2.2), aI G q_mN 181 mN, aI G q_mC 256 mC, aI G q_mH 256 mH, aI G q_mW 8 mW, aI G q_mB 8 ((f_X7_triesS_L150 mN mC mW mX FU 0 mB ((f_X7_triesS_L85 x2 mH mX FU 0 0).1)).2.1), aI G q_mX 8 mX] := hD
            have e9 : f_X7_triesS F_ x1 x2 mN mC mH mW mB mX mE = (mW, ((f_X7_triesS_L150 mN mC mW mX FU 0 mB ((f_X7_triesS_L85 x2 mH mX FU 0 0).1)).2.1), mX, ((f_X7_triesS_L150 mN mC mW mX FU 0 mB ((f_X7_triesS_L85 x2 mH mX FU 0 0).1)).2.2)) := by rw [f_X7_triesS, if_pos c_1, if_neg c_5, if_neg c_6, if_pos c_7, if_neg c_15]
            exact fv 201 _ _ _ rfl dX7_tries_201 rfl (by rw [e9]; exact hP) (by rw [e9]; exact hD) hS
          · rw [if_pos c_15] at hk
            have e9 : f_X7_triesS F_ x1 x2 mN mC mH mW mB mX mE = (mW, mB, mX, mE) := by rw [f_X7_triesS, if_pos c_1, if_neg c_5, if_neg c_6, if_pos c_7, if_pos c_15]
            exact fv 141 _ _ _ rfl dX7_tries_141 rfl (by rw [e9]; exact hP) (by rw [e9]; exact hD) hS
  · rw [if_neg c_1] at hk
    refine lv_iconst (v := 0) hx hb dX7_tries_10 (by decide) ?_
    refine lv_istore_n (lv' := [(3, .int 0), (0, .ref q_m), (1, .int x1), (2, .int x2)]) hx hb dX7_tries_11 rfl hl (by decide) rfl (fun ls hl => ?_)
    have L12 : ∀ (n : Nat) (v3 : Int32) (w_mW : Nat → Int32) (w_mB : Nat → Int32) (w_mX : Nat → Int32) (w_mE : Int32), k_X7_triesS_L12 F_ K_ x1 x2 mN mC mH n v3 w_mW w_mB w_mX w_mE → ∀ (H : Heap) (locs : List Loc), va_P (gD G) vwCl [oX7 q_m mT q_mA mK mZ mO mF mQ mU mG mP mY q_mN q_mR q_mS mV mL q_mC q_mH q_mW q_mB q_mX w_mE, aI G q_mN 181 mN, aI G q_mC 256 mC, aI G q_mH 256 mH, aI G q_mW 8 w_mW, aI G q_mB 8 w_mB, aI G q_mX 8 w_mX] H → va_D A [oX7 q_m mT q_mA mK mZ mO mF mQ mU mG mP mY q_mN q_mR q_mS mV mL q_mC q_mH q_mW q_mB q_mX w_mE, aI G q_mN 181 mN, aI G q_mC 256 mC, aI G q_mH 256 mH, aI G q_mW 8 w_mW, aI G q_mB 8 w_mB, aI G q_mX 8 w_mX] → va_S A s.heap H locs → ∀ (ls : Array Slot), lv_has ls 5 [(0, .ref q_m), (1, .int x1), (2, .int x2), (3, .int v3)] → (∀ (H : Heap) (locs : List Loc), va_P (gD G) vwCl [oX7 q_m mT q_mA mK mZ mO mF mQ mU mG mP mY q_mN q_mR q_mS mV mL q_mC q_mH q_mW q_mB q_mX ((f_X7_triesS_L12 F_ x1 x2 mN mC mH n v3 w_mW w_mB w_mX w_mE).2.2.2.2), aI G q_mN 181 mN, aI G q_mC 256 mC, aI G q_mH 256 mH, aI G q_mW 8 ((f_X7_triesS_L12 F_ x1 x2 mN mC mH n v3 w_mW w_mB w_mX w_mE).2.1), aI G q_mB 8 ((f_X7_triesS_L12 F_ x1 x2 mN mC mH n v3 w_mW w_mB w_mX w_mE).2.2.1), aI G q_mX 8 ((f_X7_triesS_L12 F_ x1 x2 mN mC mH n v3 w_mW w_mB w_mX w_mE).2.2.2.1)] H → va_D A [oX7 q_m mT q_mA mK mZ mO mF mQ mU mG mP mY q_mN q_mR q_mS mV mL q_mC q_mH q_mW q_mB q_mX ((f_X7_triesS_L12 F_ x1 x2 mN mC mH n v3 w_mW w_mB w_mX w_mE).2.2.2.2), aI G q_mN 181 mN, aI G q_mC 256 mC, aI G q_mH 256 mH, aI G q_mW 8 ((f_X7_triesS_L12 F_ x1 x2 mN mC mH n v3 w_mW w_mB w_mX w_mE).2.1), aI G q_mB 8 ((f_X7_triesS_L12 F_ x1 x2 mN mC mH n v3 w_mW w_mB w_mX w_mE).2.2.1), aI G q_mX 8 ((f_X7_triesS_L12 F_ x1 x2 mN mC mH n v3 w_mW w_mB w_mX w_mE).2.2.2.1)] → va_S A s.heap H locs → ∀ (ls : Array Slot), lv_has ls 5 [(0, .ref q_m), (1, .int x1), (2, .int x2), (3, .int ((f_X7_triesS_L12 F_ x1 x2 mN mC mH n v3 w_mW w_mB w_mX w_mE).1))] → W p l e (rm (kk_ + 2)) s m args below meth c H locs 0 0 Q (F0 m 79 ls [])) → W p l e (rm (kk_ + 2)) s m args below meth c H locs 0 0 Q (F0 m 12 ls []) := by
      intro n
      induction n with
      | zero => intro v3 w_mW w_mB w_mX w_mE hk; exact (hk : False).elim
      | succ n ih =>
        intro v3 w_mW w_mB w_mX w_mE hk H locs hP hD hS ls hl kk
        rw [k_X7_triesS_L12] at hk
        refine lv_iload_n hx hb dX7_tries_12 rfl (lv_at hl 3 rfl) ?_
        refine lv_iload_n hx hb dX7_tries_13 rfl (lv_at hl 2 rfl) ?_
        refine lv_icmp_gt (tgt := 79) hx hb dX7_tries_14 (by decide) (fun c_22 => ?_) (fun c_22 => ?_)
        · rw [if_pos c_22] at hk
          have e9 : f_X7_triesS_L12 F_ x1 x2 mN mC mH (n + 1) v3 w_mW w_mB w_mX w_mE = (v3, w_mW, w_mB, w_mX, w_mE) := by rw [f_X7_triesS_L12, if_pos c_22]
          rw [e9] at kk
          exact kk _ _ hP hD hS ls (lv_sub hl [0, 1, 2, 3] rfl)
        · rw [if_neg c_22] at hk
          refine lv_iload_n hx hb dX7_tries_17 rfl (lv_at hl 3 rfl) ?_
          refine lv_bipush (v := 8) hx hb dX7_tries_18 (by decide) ?_
          refine lv_icmp_ge (tgt := 79) hx hb dX7_tries_20 (by decide) (fun c_23 => ?_) (fun c_23 => ?_)
          · rw [if_pos c_23] at hk
            have e9 : f_X7_triesS_L12 F_ x1 x2 mN mC mH (n + 1) v3 w_mW w_mB w_mX w_mE = (v3, w_mW, w_mB, w_mX, w_mE) := by rw [f_X7_triesS_L12, if_neg c_22, if_pos c_23]
            rw [e9] at kk
            exact kk _ _ hP hD hS ls (lv_sub hl [0, 1, 2, 3] rfl)
          · rw [if_neg c_23] at hk
            refine lv_aload_n hx hb dX7_tries_23 rfl (lv_at hl 0 rfl) ?_
            refine va_get (D := gD G) (ci := 7) (v := .ref q_mX) (C := RX7) (T := TX7) (N := 22) hx hb hts i_X7 hown hB.1 hP 0 rfl rfl 20 (by decide) t_2 (fun _ h9 => h9) rfl dX7_tries_24 ?_
            refine lv_iload_n hx hb dX7_tries_27 rfl (lv_at hl 3 rfl) ?_
            refine lv_dup2_11 hx hb dX7_tries_28 rfl rfl ?_
            obtain ⟨o_24, hk⟩ := hk
            refine va_iald hx hb hB.1 hP 6 1 rfl rfl o_24 dX7_tries_29 ?_
            refine lv_iconst (v := 1) hx hb dX7_tries_30 (by decide) ?_
            refine lv_iload_n hx hb dX7_tries_31 rfl (lv_at hl 1 rfl) ?_
            refine lv_ishl hx hb dX7_tries_32 ?_
            refine lv_ior hx hb dX7_tries_33 ?_
            obtain ⟨o_25, hk⟩ := hk
            refine va_iast hx hb hB.1 hP hD hS 6 1 rfl rfl o_25 dX7_tries_34 (fun H locs hP hD hS => ?_)
            have hP : va_P (gD G) vwCl [oX7 q_m mT q_mA mK mZ mO mF mQ mU mG mP mY q_mN q_mR q_mS mV mL q_mC q_mH q_mW q_mB q_mX w_mE, aI G q_mN 181 mN, aI G q_mC 256 mC, aI G q_mH 256 mH, aI G q_mW 8 w_mW, aI G q_mB 8 w_mB, aI G q_mX 8 (upd w_mX (Int32.toNatClampNeg v3) ((w_mX (Int32.toNatClampNeg v3)) ||| (1 <<< (x1 &&& 31))))] H := hP
            have hD : va_D A [oX7 q_m mT q_mA mK mZ mO mF mQ mU mG mP mY q_mN q_mR q_mS mV mL q_mC q_mH q_mW q_mB q_mX w_mE, aI G q_mN 181 mN, aI G q_mC 256 mC, aI G q_mH 256 mH, aI G q_mW 8 w_mW, aI G q_mB 8 w_mB, aI G q_mX 8 (upd w_mX (Int32.toNatClampNeg v3) ((w_mX (Int32.toNatClampNeg v3)) ||| (1 <<< (x1 &&& 31))))] := hD
            refine lv_aload_n hx hb dX7_tries_35 rfl (lv_at hl 0 rfl) ?_
            refine va_get (D := gD G) (ci := 7) (v := .ref q_mW) (C := RX7) (T := TX7) (N := 22) hx hb hts i_X7 hown hB.1 hP 0 rfl rfl 18 (by decide) t_6 (fun _ h9 => h9) rfl dX7_tries_36 ?_
            refine lv_iload_n hx hb dX7_tries_39 rfl (lv_at hl 1 rfl) ?_
            refine lv_iload_n hx hb dX7_tries_40 rfl (lv_at hl 3 rfl) ?_
            obtain ⟨o_26, hk⟩ := hk
            refine va_iast hx hb hB.1 hP hD hS 4 1 rfl rfl o_26 dX7_tries_41 (fun H locs hP hD hS => ?_)
            have hP : va_P (gD G) vwCl [oX7 q_m mT q_mA mK mZ mO mF mQ mU mG mP mY q_mN q_mR q_mS mV mL q_mC q_mH q_mW q_mB q_mX w_mE, aI G q_mN 181 mN, aI G q_mC 256 mC, aI G q_mH 256 mH, aI G q_mW 8 (upd w_mW (Int32.toNatClampNeg x1) v3), aI G q_mB 8 w_mB, aI G q_mX 8 (upd w_mX (Int32.toNatClampNeg v3) ((w_mX (Int32.toNatClampNeg v3)) ||| (1 <<< (x1 &&& 31))))] H := hP
            have hD : va_D A [oX7 q_m mT q_mA mK mZ mO mF mQ mU mG mP mY q_mN q_mR q_mS mV mL q_mC q_mH q_mW q_mB q_mX w_mE, aI G q_mN 181 mN, aI G q_mC 256 mC, aI G q_mH 256 mH, aI G q_mW 8 (upd w_mW (Int32.toNatClampNeg x1) v3), aI G q_mB 8 w_mB, aI G q_mX 8 (upd w_mX (Int32.toNatClampNeg v3) ((w_mX (Int32.toNatClampNeg v3)) ||| (1 <<< (x1 &&& 31))))] := hD
            refine lv_aload_n hx hb dX7_tries_42 rfl (lv_at hl 0 rfl) ?_
            refine lv_iload_n hx hb dX7_tries_43 rfl (lv_at hl 1 rfl) ?_
            refine lv_iconst (v := 1) hx hb dX7_tries_44 (by decide) ?_
            refine lv_iadd hx hb dX7_tries_45 ?_
            refine lv_iload_n hx hb dX7_tries_46 rfl (lv_at hl 3 rfl) ?_
            refine lv_iload_n hx hb dX7_tries_47 rfl (lv_at hl 2 rfl) ?_
            refine lv_icmp_ne (tgt := 57) hx hb dX7_tries_48 (by decide) (fun c_27 => ?_) (fun c_27 => ?_)
            · rw [if_neg c_27] at hk
              refine lv_iload_n hx hb dX7_tries_57 rfl (lv_at hl 2 rfl) ?_
              obtain ⟨o_28, hk⟩ := hk
              refine wr_V (ci := 7) (q0 := 0) (As := [.int (x1 + 1), .int x2]) (rest := []) (wr := []) (wf := [oX7 q_m mT q_mA mK mZ mO mF mQ mU mG mP mY q_mN q_mR q_mS mV mL q_mC q_mH q_mW q_mB q_mX ((F_ (x1 + 1) x2 mN mC mH (upd w_mW (Int32.toNatClampNeg x1) v3) w_mB (upd w_mX (Int32.toNatClampNeg v3) ((w_mX (Int32.toNatClampNeg v3)) ||| (1 <<< (x1 &&& 31)))) w_mE).2.2.2), aI G q_mN 181 mN, aI G q_mC 256 mC, aI G q_mH 256 mH, aI G q_mW 8 ((F_ (x1 + 1) x2 mN mC mH (upd w_mW (Int32.toNatClampNeg x1) v3) w_mB (upd w_mX (Int32.toNatClampNeg v3) ((w_mX (Int32.toNatClampNeg v3)) ||| (1 <<< (x1 &&& 31)))) w_mE).1), aI G q_mB 8 ((F_ (x1 + 1) x2 mN mC mH (upd w_mW (Int32.toNatClampNeg x1) v3) w_mB (upd w_mX (Int32.toNatClampNeg v3) ((w_mX (Int32.toNatClampNeg v3)) ||| (1 <<< (x1 &&& 31)))) w_mE).2.1), aI G q_mX 8 ((F_ (x1 + 1) x2 mN mC mH (upd w_mW (Int32.toNatClampNeg x1) v3) w_mB (upd w_mX (Int32.toNatClampNeg v3) ((w_mX (Int32.toNatClampNeg v3)) ||| (1 <<< (x1 &&& 31)))) w_mE).2.2.1)]) (hF_ q_m q_mA q_mN q_mR q_mS q_mC q_mH q_mW q_mB q_mX mT mK mZ mO mF mQ mU mG mP mY mV mL w_mE mN mC mH (upd w_mW (Int32.toNatClampNeg x1) v3) w_mB (upd w_mX (Int32.toNatClampNeg v3) ((w_mX (Int32.toNatClampNeg v3)) ||| (1 <<< (x1 &&& 31)))) (x1 + 1) x2 o_28) [0, 1, 2, 3, 4, 5, 6] [] [0, 1, 2, 3, 4, 5, 6] rfl rfl rfl (by decide) rfl rfl rfl gX7_tries_X7_tries ⟨_, rfl⟩ hd_X7_tries rfl dX7_tries_58 rfl rfl (Nat.le_of_ble_eq_true rfl) ⟨(by show _ ≤ kk_ + 2; omega), (by show _ ≤ 40 * (kk_ + 2); omega)⟩ ⟨Nat.le_refl 0, Nat.le_refl 0⟩ hx hb hml hown hts hB hD hS hA hP hl.1 (fun H locs hP hD hS => ?_)
              refine W.eq (g2 := F0 m 61 ls []) rfl ?_
              refine lv_aload_n hx hb dX7_tries_61 rfl (lv_at hl 0 rfl) ?_
              refine va_get (D := gD G) (ci := 7) (v := .ref q_mX) (C := RX7) (T := TX7) (N := 22) hx hb hts i_X7 hown hB.1 hP 0 rfl rfl 20 (by decide) t_2 (fun _ h9 => h9) rfl dX7_tries_62 ?_
              refine lv_iload_n hx hb dX7_tries_65 rfl (lv_at hl 3 rfl) ?_
              refine lv_dup2_11 hx hb dX7_tries_66 rfl rfl ?_
              obtain ⟨o_29, hk⟩ := hk
              refine va_iald hx hb hB.1 hP 6 1 rfl rfl o_29 dX7_tries_67 ?_
              refine lv_iconst (v := 1) hx hb dX7_tries_68 (by decide) ?_
              refine lv_iload_n hx hb dX7_tries_69 rfl (lv_at hl 1 rfl) ?_
              refine lv_ishl hx hb dX7_tries_70 ?_
              refine lv_ixor hx hb dX7_tries_71 ?_
              obtain ⟨o_30, hk⟩ := hk
              refine va_iast hx hb hB.1 hP hD hS 6 1 rfl rfl o_30 dX7_tries_72 (fun H locs hP hD hS => ?_)
              have hP : va_P (gD G) vwCl [oX7 q_m mT q_mA mK mZ mO mF mQ mU mG mP mY q_mN q_mR q_mS mV mL q_mC q_mH q_mW q_mB q_mX ((F_ (x1 + 1) x2 mN mC mH (upd w_mW (Int32.toNatClampNeg x1) v3) w_mB (upd w_mX (Int32.toNatClampNeg v3) ((w_mX (Int32.toNatClampNeg v3)) ||| (1 <<< (x1 &&& 31)))) w_mE).2.2.2), aI G q_mN 181 mN, aI G q_mC 256 mC, aI G q_mH 256 mH, aI G q_mW 8 ((F_ (x1 + 1) x2 mN mC mH (upd w_mW (Int32.toNatClampNeg x1) v3) w_mB (upd w_mX (Int32.toNatClampNeg v3) ((w_mX (Int32.toNatClampNeg v3)) ||| (1 <<< (x1 &&& 31)))) w_mE).1), aI G q_mB 8 ((F_ (x1 + 1) x2 mN mC mH (upd w_mW (Int32.toNatClampNeg x1) v3) w_mB (upd w_mX (Int32.toNatClampNeg v3) ((w_mX (Int32.toNatClampNeg v3)) ||| (1 <<< (x1 &&& 31)))) w_mE).2.1), aI G q_mX 8 (upd ((F_ (x1 + 1) x2 mN mC mH (upd w_mW (Int32.toNatClampNeg x1) v3) w_mB (upd w_mX (Int32.toNatClampNeg v3) ((w_mX (Int32.toNatClampNeg v3)) ||| (1 <<< (x1 &&& 31)))) w_mE).2.2.1) (Int32.toNatClampNeg v3) ((((F_ (x1 + 1) x2 mN mC mH (upd w_mW (Int32.toNatClampNeg x1) v3) w_mB (upd w_mX (Int32.toNatClampNeg v3) ((w_mX (Int32.toNatClampNeg v3)) ||| (1 <<< (x1 &&& 31)))) w_mE).2.2.1) (Int32.toNatClampNeg v3)) ^^^ (1 <<< (x1 &&& 31))))] H := hP
              have hD : va_D A [oX7 q_m mT q_mA mK mZ mO mF mQ mU mG mP mY q_mN q_mR q_mS mV mL q_mC q_mH q_mW q_mB q_mX ((F_ (x1 + 1) x2 mN mC mH (upd w_mW (Int32.toNatClampNeg x1) v3) w_mB (upd w_mX (Int32.toNatClampNeg v3) ((w_mX (Int32.toNatClampNeg v3)) ||| (1 <<< (x1 &&& 31)))) w_mE).2.2.2), aI G q_mN 181 mN, aI G q_mC 256 mC, aI G q_mH 256 mH, aI G q_mW 8 ((F_ (x1 + 1) x2 mN mC mH (upd w_mW (Int32.toNatClampNeg x1) v3) w_mB (upd w_mX (Int32.toNatClampNeg v3) ((w_mX (Int32.toNatClampNeg v3)) ||| (1 <<< (x1 &&& 31)))) w_mE).1), aI G q_mB 8 ((F_ (x1 + 1) x2 mN mC mH (upd w_mW (Int32.toNatClampNeg x1) v3) w_mB (upd w_mX (Int32.toNatClampNeg v3) ((w_mX (Int32.toNatClampNeg v3)) ||| (1 <<< (x1 &&& 31)))) w_mE).2.1), aI G q_mX 8 (upd ((F_ (x1 + 1) x2 mN mC mH (upd w_mW (Int32.toNatClampNeg x1) v3) w_mB (upd w_mX (Int32.toNatClampNeg v3) ((w_mX (Int32.toNatClampNeg v3)) ||| (1 <<< (x1 &&& 31)))) w_mE).2.2.1) (Int32.toNatClampNeg v3) ((((F_ (x1 + 1) x2 mN mC mH (upd w_mW (Int32.toNatClampNeg x1) v3) w_mB (upd w_mX (Int32.toNatClampNeg v3) ((w_mX (Int32.toNatClampNeg v3)) ||| (1 <<< (x1 &&& 31)))) w_mE).2.2.1) (Int32.toNatClampNeg v3)) ^^^ (1 <<< (x1 &&& 31))))] := hD
              refine lv_iinc (v := (v3 + 1)) (lv' := [(3, .int (v3 + 1)), (0, .ref q_m), (1, .int x1), (2, .int x2)]) hx hb dX7_tries_73 hl (k := 3) rfl (by rfl) (by decide) rfl (fun ls hl => ?_)
              refine lv_goto (tgt := 12) hx hb dX7_tries_76 (by decide) ?_
              have e9 : f_X7_triesS_L12 F_ x1 x2 mN mC mH (n + 1) v3 w_mW w_mB w_mX w_mE = f_X7_triesS_L12 F_ x1 x2 mN mC mH n (v3 + 1) ((F_ (x1 + 1) x2 mN mC mH (upd w_mW (Int32.toNatClampNeg x1) v3) w_mB (upd w_mX (Int32.toNatClampNeg v3) ((w_mX (Int32.toNatClampNeg v3)) ||| (1 <<< (x1 &&& 31)))) w_mE).1) ((F_ (x1 + 1) x2 mN mC mH (upd w_mW (Int32.toNatClampNeg x1) v3) w_mB (upd w_mX (Int32.toNatClampNeg v3) ((w_mX (Int32.toNatClampNeg v3)) ||| (1 <<< (x1 &&& 31)))) w_mE).2.1) (upd ((F_ (x1 + 1) x2 mN mC mH (upd w_mW (Int32.toNatClampNeg x1) v3) w_mB (upd w_mX (Int32.toNatClampNeg v3) ((w_mX (Int32.toNatClampNeg v3)) ||| (1 <<< (x1 &&& 31)))) w_mE).2.2.1) (Int32.toNatClampNeg v3) ((((F_ (x1 + 1) x2 mN mC mH (upd w_mW (Int32.toNatClampNeg x1) v3) w_mB (upd w_mX (Int32.toNatClampNeg v3) ((w_mX (Int32.toNatClampNeg v3)) ||| (1 <<< (x1 &&& 31)))) w_mE).2.2.1) (Int32.toNatClampNeg v3)) ^^^ (1 <<< (x1 &&& 31)))) ((F_ (x1 + 1) x2 mN mC mH (upd w_mW (Int32.toNatClampNeg x1) v3) w_mB (upd w_mX (Int32.toNatClampNeg v3) ((w_mX (Int32.toNatClampNeg v3)) ||| (1 <<< (x1 &&& 31)))) w_mE).2.2.2) := by rw [f_X7_triesS_L12, if_neg c_22, if_neg c_23, if_neg c_27]
              rw [e9] at kk
              exact ih (v3 + 1) ((F_ (x1 + 1) x2 mN mC mH (upd w_mW (Int32.toNatClampNeg x1) v3) w_mB (upd w_mX (Int32.toNatClampNeg v3) ((w_mX (Int32.toNatClampNeg v3)) ||| (1 <<< (x1 &&& 31)))) w_mE).1) ((F_ (x1 + 1) x2 mN mC mH (upd w_mW (Int32.toNatClampNeg x1) v3) w_mB (upd w_mX (Int32.toNatClampNeg v3) ((w_mX (Int32.toNatClampNeg v3)) ||| (1 <<< (x1 &&& 31)))) w_mE).2.1) (upd ((F_ (x1 + 1) x2 mN mC mH (upd w_mW (Int32.toNatClampNeg x1) v3) w_mB (upd w_mX (Int32.toNatClampNeg v3) ((w_mX (Int32.toNatClampNeg v3)) ||| (1 <<< (x1 &&& 31)))) w_mE).2.2.1) (Int32.toNatClampNeg v3) ((((F_ (x1 + 1) x2 mN mC mH (upd w_mW (Int32.toNatClampNeg x1) v3) w_mB (upd w_mX (Int32.toNatClampNeg v3) ((w_mX (Int32.toNatClampNeg v3)) ||| (1 <<< (x1 &&& 31)))) w_mE).2.2.1) (Int32.toNatClampNeg v3)) ^^^ (1 <<< (x1 &&& 31)))) ((F_ (x1 + 1) x2 mN mC mH (upd w_mW (Int32.toNatClampNeg x1) v3) w_mB (upd w_mX (Int32.toNatClampNeg v3) ((w_mX (Int32.toNatClampNeg v3)) ||| (1 <<< (x1 &&& 31)))) w_mE).2.2.2) hk _ _ hP hD hS ls (lv_sub hl [1, 2, 3, 0] rfl) kk
            · rw [if_pos c_27] at hk
              refine lv_iload_n hx hb dX7_tries_51 rfl (lv_at hl 2 rfl) ?_
              refine lv_iconst (v := 1) hx hb dX7_tries_52 (by decide) ?_
              refine lv_iadd hx hb dX7_tries_53 ?_
              refine lv_goto (tgt := 58) hx hb dX7_tries_54 (by decide) ?_
              obtain ⟨o_31, hk⟩ := hk
              refine wr_V (ci := 7) (q0 := 0) (As := [.int (x1 + 1), .int (x2 + 1)]) (rest := []) (wr := []) (wf := [oX7 q_m mT q_mA mK mZ mO mF mQ mU mG mP mY q_mN q_mR q_mS mV mL q_mC q_mH q_mW q_mB q_mX ((F_ (x1 + 1) (x2 + 1) mN mC mH (upd w_mW (Int32.toNatClampNeg x1) v3) w_mB (upd w_mX (Int32.toNatClampNeg v3) ((w_mX (Int32.toNatClampNeg v3)) ||| (1 <<< (x1 &&& 31)))) w_mE).2.2.2), aI G q_mN 181 mN, aI G q_mC 256 mC, aI G q_mH 256 mH, aI G q_mW 8 ((F_ (x1 + 1) (x2 + 1) mN mC mH (upd w_mW (Int32.toNatClampNeg x1) v3) w_mB (upd w_mX (Int32.toNatClampNeg v3) ((w_mX (Int32.toNatClampNeg v3)) ||| (1 <<< (x1 &&& 31)))) w_mE).1), aI G q_mB 8 ((F_ (x1 + 1) (x2 + 1) mN mC mH (upd w_mW (Int32.toNatClampNeg x1) v3) w_mB (upd w_mX (Int32.toNatClampNeg v3) ((w_mX (Int32.toNatClampNeg v3)) ||| (1 <<< (x1 &&& 31)))) w_mE).2.1), aI G q_mX 8 ((F_ (x1 + 1) (x2 + 1) mN mC mH (upd w_mW (Int32.toNatClampNeg x1) v3) w_mB (upd w_mX (Int32.toNatClampNeg v3) ((w_mX (Int32.toNatClampNeg v3)) ||| (1 <<< (x1 &&& 31)))) w_mE).2.2.1)]) (hF_ q_m q_mA q_mN q_mR q_mS q_mC q_mH q_mW q_mB q_mX mT mK mZ mO mF mQ mU mG mP mY mV mL w_mE mN mC mH (upd w_mW (Int32.toNatClampNeg x1) v3) w_mB (upd w_mX (Int32.toNatClampNeg v3) ((w_mX (Int32.toNatClampNeg v3)) ||| (1 <<< (x1 &&& 31)))) (x1 + 1) (x2 + 1) o_31) [0, 1, 2, 3, 4, 5, 6] [] [0, 1, 2, 3, 4, 5, 6] rfl rfl rfl (by decide) rfl rfl rfl gX7_tries_X7_tries ⟨_, rfl⟩ hd_X7_tries rfl dX7_tries_58 rfl rfl (Nat.le_of_ble_eq_true rfl) ⟨(by show _ ≤ kk_ + 2; omega), (by show _ ≤ 40 * (kk_ + 2); omega)⟩ ⟨Nat.le_refl 0, Nat.le_refl 0⟩ hx hb hml hown hts hB hD hS hA hP hl.1 (fun H locs hP hD hS => ?_)
              refine W.eq (g2 := F0 m 61 ls []) rfl ?_
              refine lv_aload_n hx hb dX7_tries_61 rfl (lv_at hl 0 rfl) ?_
              refine va_get (D := gD G) (ci := 7) (v := .ref q_mX) (C := RX7) (T := TX7) (N := 22) hx hb hts i_X7 hown hB.1 hP 0 rfl rfl 20 (by decide) t_2 (fun _ h9 => h9) rfl dX7_tries_62 ?_
              refine lv_iload_n hx hb dX7_tries_65 rfl (lv_at hl 3 rfl) ?_
              refine lv_dup2_11 hx hb dX7_tries_66 rfl rfl ?_
              obtain ⟨o_32, hk⟩ := hk
              refine va_iald hx hb hB.1 hP 6 1 rfl rfl o_32 dX7_tries_67 ?_
              refine lv_iconst (v := 1) hx hb dX7_tries_68 (by decide) ?_
              refine lv_iload_n hx hb dX7_tries_69 rfl (lv_at hl 1 rfl) ?_
              refine lv_ishl hx hb dX7_tries_70 ?_
              refine lv_ixor hx hb dX7_tries_71 ?_
              obtain ⟨o_33, hk⟩ := hk
              refine va_iast hx hb hB.1 hP hD hS 6 1 rfl rfl o_33 dX7_tries_72 (fun H locs hP hD hS => ?_)
              have hP : va_P (gD G) vwCl [oX7 q_m mT q_mA mK mZ mO mF mQ mU mG mP mY q_mN q_mR q_mS mV mL q_mC q_mH q_mW q_mB q_mX ((F_ (x1 + 1) (x2 + 1) mN mC mH (upd w_mW (Int32.toNatClampNeg x1) v3) w_mB (upd w_mX (Int32.toNatClampNeg v3) ((w_mX (Int32.toNatClampNeg v3)) ||| (1 <<< (x1 &&& 31)))) w_mE).2.2.2), aI G q_mN 181 mN, aI G q_mC 256 mC, aI G q_mH 256 mH, aI G q_mW 8 ((F_ (x1 + 1) (x2 + 1) mN mC mH (upd w_mW (Int32.toNatClampNeg x1) v3) w_mB (upd w_mX (Int32.toNatClampNeg v3) ((w_mX (Int32.toNatClampNeg v3)) ||| (1 <<< (x1 &&& 31)))) w_mE).1), aI G q_mB 8 ((F_ (x1 + 1) (x2 + 1) mN mC mH (upd w_mW (Int32.toNatClampNeg x1) v3) w_mB (upd w_mX (Int32.toNatClampNeg v3) ((w_mX (Int32.toNatClampNeg v3)) ||| (1 <<< (x1 &&& 31)))) w_mE).2.1), aI G q_mX 8 (upd ((F_ (x1 + 1) (x2 + 1) mN mC mH (upd w_mW (Int32.toNatClampNeg x1) v3) w_mB (upd w_mX (Int32.toNatClampNeg v3) ((w_mX (Int32.toNatClampNeg v3)) ||| (1 <<< (x1 &&& 31)))) w_mE).2.2.1) (Int32.toNatClampNeg v3) ((((F_ (x1 + 1) (x2 + 1) mN mC mH (upd w_mW (Int32.toNatClampNeg x1) v3) w_mB (upd w_mX (Int32.toNatClampNeg v3) ((w_mX (Int32.toNatClampNeg v3)) ||| (1 <<< (x1 &&& 31)))) w_mE).2.2.1) (Int32.toNatClampNeg v3)) ^^^ (1 <<< (x1 &&& 31))))] H := hP
              have hD : va_D A [oX7 q_m mT q_mA mK mZ mO mF mQ mU mG mP mY q_mN q_mR q_mS mV mL q_mC q_mH q_mW q_mB q_mX ((F_ (x1 + 1) (x2 + 1) mN mC mH (upd w_mW (Int32.toNatClampNeg x1) v3) w_mB (upd w_mX (Int32.toNatClampNeg v3) ((w_mX (Int32.toNatClampNeg v3)) ||| (1 <<< (x1 &&& 31)))) w_mE).2.2.2), aI G q_mN 181 mN, aI G q_mC 256 mC, aI G q_mH 256 mH, aI G q_mW 8 ((F_ (x1 + 1) (x2 + 1) mN mC mH (upd w_mW (Int32.toNatClampNeg x1) v3) w_mB (upd w_mX (Int32.toNatClampNeg v3) ((w_mX (Int32.toNatClampNeg v3)) ||| (1 <<< (x1 &&& 31)))) w_mE).1), aI G q_mB 8 ((F_ (x1 + 1) (x2 + 1) mN mC mH (upd w_mW (Int32.toNatClampNeg x1) v3) w_mB (upd w_mX (Int32.toNatClampNeg v3) ((w_mX (Int32.toNatClampNeg v3)) ||| (1 <<< (x1 &&& 31)))) w_mE).2.1), aI G q_mX 8 (upd ((F_ (x1 + 1) (x2 + 1) mN mC mH (upd w_mW (Int32.toNatClampNeg x1) v3) w_mB (upd w_mX (Int32.toNatClampNeg v3) ((w_mX (Int32.toNatClampNeg v3)) ||| (1 <<< (x1 &&& 31)))) w_mE).2.2.1) (Int32.toNatClampNeg v3) ((((F_ (x1 + 1) (x2 + 1) mN mC mH (upd w_mW (Int32.toNatClampNeg x1) v3) w_mB (upd w_mX (Int32.toNatClampNeg v3) ((w_mX (Int32.toNatClampNeg v3)) ||| (1 <<< (x1 &&& 31)))) w_mE).2.2.1) (Int32.toNatClampNeg v3)) ^^^ (1 <<< (x1 &&& 31))))] := hD
              refine lv_iinc (v := (v3 + 1)) (lv' := [(3, .int (v3 + 1)), (0, .ref q_m), (1, .int x1), (2, .int x2)]) hx hb dX7_tries_73 hl (k := 3) rfl (by rfl) (by decide) rfl (fun ls hl => ?_)
              refine lv_goto (tgt := 12) hx hb dX7_tries_76 (by decide) ?_
              have e9 : f_X7_triesS_L12 F_ x1 x2 mN mC mH (n + 1) v3 w_mW w_mB w_mX w_mE = f_X7_triesS_L12 F_ x1 x2 mN mC mH n (v3 + 1) ((F_ (x1 + 1) (x2 + 1) mN mC mH (upd w_mW (Int32.toNatClampNeg x1) v3) w_mB (upd w_mX (Int32.toNatClampNeg v3) ((w_mX (Int32.toNatClampNeg v3)) ||| (1 <<< (x1 &&& 31)))) w_mE).1) ((F_ (x1 + 1) (x2 + 1) mN mC mH (upd w_mW (Int32.toNatClampNeg x1) v3) w_mB (upd w_mX (Int32.toNatClampNeg v3) ((w_mX (Int32.toNatClampNeg v3)) ||| (1 <<< (x1 &&& 31)))) w_mE).2.1) (upd ((F_ (x1 + 1) (x2 + 1) mN mC mH (upd w_mW (Int32.toNatClampNeg x1) v3) w_mB (upd w_mX (Int32.toNatClampNeg v3) ((w_mX (Int32.toNatClampNeg v3)) ||| (1 <<< (x1 &&& 31)))) w_mE).2.2.1) (Int32.toNatClampNeg v3) ((((F_ (x1 + 1) (x2 + 1) mN mC mH (upd w_mW (Int32.toNatClampNeg x1) v3) w_mB (upd w_mX (Int32.toNatClampNeg v3) ((w_mX (Int32.toNatClampNeg v3)) ||| (1 <<< (x1 &&& 31)))) w_mE).2.2.1) (Int32.toNatClampNeg v3)) ^^^ (1 <<< (x1 &&& 31)))) ((F_ (x1 + 1) (x2 + 1) mN mC mH (upd w_mW (Int32.toNatClampNeg x1) v3) w_mB (upd w_mX (Int32.toNatClampNeg v3) ((w_mX (Int32.toNatClampNeg v3)) ||| (1 <<< (x1 &&& 31)))) w_mE).2.2.2) := by rw [f_X7_triesS_L12, if_neg c_22, if_neg c_23, if_pos c_27]
              rw [e9] at kk
              exact ih (v3 + 1) ((F_ (x1 + 1) (x2 + 1) mN mC mH (upd w_mW (Int32.toNatClampNeg x1) v3) w_mB (upd w_mX (Int32.toNatClampNeg v3) ((w_mX (Int32.toNatClampNeg v3)) ||| (1 <<< (x1 &&& 31)))) w_mE).1) ((F_ (x1 + 1) (x2 + 1) mN mC mH (upd w_mW (Int32.toNatClampNeg x1) v3) w_mB (upd w_mX (Int32.toNatClampNeg v3) ((w_mX (Int32.toNatClampNeg v3)) ||| (1 <<< (x1 &&& 31)))) w_mE).2.1) (upd ((F_ (x1 + 1) (x2 + 1) mN mC mH (upd w_mW (Int32.toNatClampNeg x1) v3) w_mB (upd w_mX (Int32.toNatClampNeg v3) ((w_mX (Int32.toNatClampNeg v3)) ||| (1 <<< (x1 &&& 31)))) w_mE).2.2.1) (Int32.toNatClampNeg v3) ((((F_ (x1 + 1) (x2 + 1) mN mC mH (upd w_mW (Int32.toNatClampNeg x1) v3) w_mB (upd w_mX (Int32.toNatClampNeg v3) ((w_mX (Int32.toNatClampNeg v3)) ||| (1 <<< (x1 &&& 31)))) w_mE).2.2.1) (Int32.toNatClampNeg v3)) ^^^ (1 <<< (x1 &&& 31)))) ((F_ (x1 + 1) (x2 + 1) mN mC mH (upd w_mW (Int32.toNatClampNeg x1) v3) w_mB (upd w_mX (Int32.toNatClampNeg v3) ((w_mX (Int32.toNatClampNeg v3)) ||| (1 <<< (x1 &&& 31)))) w_mE).2.2.2) hk _ _ hP hD hS ls (lv_sub hl [1, 2, 3, 0] rfl) kk
    obtain ⟨hkL, hk⟩ := hk
    refine L12 FU 0 mW mB mX mE hkL _ _ hP hD hS ls (lv_sub hl [1, 2, 3, 0] rfl) (fun H locs hP hD hS ls hl => ?_)
    have hP : va_P (gD G) vwCl [oX7 q_m mT q_mA mK mZ mO mF mQ mU mG mP mY q_mN q_mR q_mS mV mL q_mC q_mH q_mW q_mB q_mX ((f_X7_triesS_L12 F_ x1 x2 mN mC mH FU 0 mW mB mX mE).2.2.2.2), aI G q_mN 181 mN, aI G q_mC 256 mC, aI G q_mH 256 mH, aI G q_mW 8 ((f_X7_triesS_L12 F_ x1 x2 mN mC mH FU 0 mW mB mX mE).2.1), aI G q_mB 8 ((f_X7_triesS_L12 F_ x1 x2 mN mC mH FU 0 mW mB mX mE).2.2.1), aI G q_mX 8 ((f_X7_triesS_L12 F_ x1 x2 mN mC mH FU 0 mW mB mX mE).2.2.2.1)] H := hP
    have hD : va_D A [oX7 q_m mT q_mA mK mZ mO mF mQ mU mG mP mY q_mN q_mR q_mS mV mL q_mC q_mH q_mW q_mB q_mX ((f_X7_triesS_L12 F_ x1 x2 mN mC mH FU 0 mW mB mX mE).2.2.2.2), aI G q_mN 181 mN, aI G q_mC 256 mC, aI G q_mH 256 mH, aI G q_mW 8 ((f_X7_triesS_L12 F_ x1 x2 mN mC mH FU 0 mW mB mX mE).2.1), aI G q_mB 8 ((f_X7_triesS_L12 F_ x1 x2 mN mC mH FU 0 mW mB mX mE).2.2.1), aI G q_mX 8 ((f_X7_triesS_L12 F_ x1 x2 mN mC mH FU 0 mW mB mX mE).2.2.2.1)] := hD
    have e9 : f_X7_triesS F_ x1 x2 mN mC mH mW mB mX mE = (((f_X7_triesS_L12 F_ x1 x2 mN mC mH FU 0 mW mB mX mE).2.1), ((f_X7_triesS_L12 F_ x1 x2 mN mC mH FU 0 mW mB mX mE).2.2.1), ((f_X7_triesS_L12 F_ x1 x2 mN mC mH FU 0 mW mB mX mE).2.2.2.1), ((f_X7_triesS_L12 F_ x1 x2 mN mC mH FU 0 mW mB mX mE).2.2.2.2)) := by rw [f_X7_triesS, if_neg c_1]
    exact fv 79 _ _ _ rfl dX7_tries_79 rfl (by rw [e9]; exact hP) (by rw [e9]; exact hD) hS

noncomputable def f_X7_tries : Nat → Int32 → Int32 → (Nat → Int32) → (Nat → Int32) → (Nat → Int32) → (Nat → Int32) → (Nat → Int32) → (Nat → Int32) → Int32 → (Nat → Int32) × (Nat → Int32) × (Nat → Int32) × Int32
  | 0, x1, x2, mN, mC, mH, mW, mB, mX, mE => (mW, mB, mX, mE)
  | d + 1, x1, x2, mN, mC, mH, mW, mB, mX, mE => f_X7_triesS (f_X7_tries d) x1 x2 mN mC mH mW mB mX mE
noncomputable def k_X7_tries : Nat → Int32 → Int32 → (Nat → Int32) → (Nat → Int32) → (Nat → Int32) → (Nat → Int32) → (Nat → Int32) → (Nat → Int32) → Int32 → Prop
  | 0, _, _, _, _, _, _, _, _, _ => False
  | d + 1, x1, x2, mN, mC, mH, mW, mB, mX, mE => k_X7_triesS (f_X7_tries d) (k_X7_tries d) x1 x2 mN mC mH mW mB mX mE
theorem c_X7_tries (l : Launch) (G : BGT) : ∀ (d : Nat) (q_m q_mA q_mN q_mR q_mS q_mC q_mH q_mW q_mB q_mX : Nat) (mT : Int32) (mK : Int32) (mZ : Int32) (mO : Int32) (mF : Int32) (mQ : Int32) (mU : Int32) (mG : Int32) (mP : Int32) (mY : Int64) (mV : Int32) (mL : Int32) (mE : Int32) (mN : Nat → Int32) (mC : Nat → Int32) (mH : Nat → Int32) (mW : Nat → Int32) (mB : Nat → Int32) (mX : Nat → Int32) (x1 x2 : Int32), k_X7_tries d x1 x2 mN mC mH mW mB mX mE → WR l yX7_tries wsX7_tries (2 * d) G [oX7 q_m mT q_mA mK mZ mO mF mQ mU mG mP mY q_mN q_mR q_mS mV mL q_mC q_mH q_mW q_mB q_mX mE, aI G q_mN 181 mN, aI G q_mC 256 mC, aI G q_mH 256 mH, aI G q_mW 8 mW, aI G q_mB 8 mB, aI G q_mX 8 mX] [oX7 q_m mT q_mA mK mZ mO mF mQ mU mG mP mY q_mN q_mR q_mS mV mL q_mC q_mH q_mW q_mB q_mX ((f_X7_tries d x1 x2 mN mC mH mW mB mX mE).2.2.2), aI G q_mN 181 mN, aI G q_mC 256 mC, aI G q_mH 256 mH, aI G q_mW 8 ((f_X7_tries d x1 x2 mN mC mH mW mB mX mE).1), aI G q_mB 8 ((f_X7_tries d x1 x2 mN mC mH mW mB mX mE).2.1), aI G q_mX 8 ((f_X7_tries d x1 x2 mN mC mH mW mB mX mE).2.2.1)] [.ref q_m, .int x1, .int x2] none := by
  intro d
  induction d with
  | zero => intro q_m q_mA q_mN q_mR q_mS q_mC q_mH q_mW q_mB q_mX mT mK mZ mO mF mQ mU mG mP mY mV mL mE mN mC mH mW mB mX x1 x2 hk; exact (hk : False).elim
  | succ d ih =>
    intro q_m q_mA q_mN q_mR q_mS q_mC q_mH q_mW q_mB q_mX mT mK mZ mO mF mQ mU mG mP mY mV mL mE mN mC mH mW mB mX x1 x2 hk
    exact c_X7_triesS l G (2 * d) (f_X7_tries d) (k_X7_tries d) ih q_m q_mA q_mN q_mR q_mS q_mC q_mH q_mW q_mB q_mX mT mK mZ mO mF mQ mU mG mP mY mV mL mE mN mC mH mW mB mX x1 x2 hk
noncomputable def f_X7_triesT (x1 : Int32) (x2 : Int32) (mN : Nat → Int32) (mC : Nat → Int32) (mH : Nat → Int32) (mW : Nat → Int32) (mB : Nat → Int32) (mX : Nat → Int32) (mE : Int32) : (Nat → Int32) × (Nat → Int32) × (Nat → Int32) × Int32 := f_X7_tries 10 x1 x2 mN mC mH mW mB mX mE
noncomputable def k_X7_triesT (x1 : Int32) (x2 : Int32) (mN : Nat → Int32) (mC : Nat → Int32) (mH : Nat → Int32) (mW : Nat → Int32) (mB : Nat → Int32) (mX : Nat → Int32) (mE : Int32) : Prop := k_X7_tries 10 x1 x2 mN mC mH mW mB mX mE
theorem c_X7_triesT (l : Launch) (G : BGT) (q_m q_mA q_mN q_mR q_mS q_mC q_mH q_mW q_mB q_mX : Nat) (mT : Int32) (mK : Int32) (mZ : Int32) (mO : Int32) (mF : Int32) (mQ : Int32) (mU : Int32) (mG : Int32) (mP : Int32) (mY : Int64) (mV : Int32) (mL : Int32) (mE : Int32) (mN : Nat → Int32) (mC : Nat → Int32) (mH : Nat → Int32) (mW : Nat → Int32) (mB : Nat → Int32) (mX : Nat → Int32) (x1 x2 : Int32) (hk : k_X7_triesT x1 x2 mN mC mH mW mB mX mE) : WR l yX7_tries wsX7_tries 20 G [oX7 q_m mT q_mA mK mZ mO mF mQ mU mG mP mY q_mN q_mR q_mS mV mL q_mC q_mH q_mW q_mB q_mX mE, aI G q_mN 181 mN, aI G q_mC 256 mC, aI G q_mH 256 mH, aI G q_mW 8 mW, aI G q_mB 8 mB, aI G q_mX 8 mX] [oX7 q_m mT q_mA mK mZ mO mF mQ mU mG mP mY q_mN q_mR q_mS mV mL q_mC q_mH q_mW q_mB q_mX ((f_X7_triesT x1 x2 mN mC mH mW mB mX mE).2.2.2), aI G q_mN 181 mN, aI G q_mC 256 mC, aI G q_mH 256 mH, aI G q_mW 8 ((f_X7_triesT x1 x2 mN mC mH mW mB mX mE).1), aI G q_mB 8 ((f_X7_triesT x1 x2 mN mC mH mW mB mX mE).2.1), aI G q_mX 8 ((f_X7_triesT x1 x2 mN mC mH mW mB mX mE).2.2.1)] [.ref q_m, .int x1, .int x2] none := c_X7_tries l G 10 q_m q_mA q_mN q_mR q_mS q_mC q_mH q_mW q_mB q_mX mT mK mZ mO mF mQ mU mG mP mY mV mL mE mN mC mH mW mB mX x1 x2 hk
