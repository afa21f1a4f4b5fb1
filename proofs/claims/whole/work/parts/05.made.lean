/-! MADE: contracts of constructors (new cells behind the old ones), arrays made -/
abbrev rmn (k mc ms : Nat) : Room := { frames := k, cells := mc, slots := ms, locals := 40 * k }
/-- a maker's contract: the cells ws become ws', of which post tells -/
def NW (l : Launch) (y : MethodName) (wd : List Cond) (k : Nat) (G : BGT) (ws : va_W) (av : List Value) (mc ms : Nat) (post : va_W → Prop) : Prop :=
  ∀ sz : Nat, Met l y wd (rmn k mc ms) (va_Pc av (fun U => U.heap.size = sz ∧ va_P (gD G) vwCl ws U.heap ∧ BG G (va_A ws sz) U U.heap ∧ va_D (fun _ => True) ws)) (fun _ st o t => o = .returned none ∧ (∃ ws', post ws' ∧ va_P (gD G) vwCl ws' t.heap ∧ va_D (va_A ws sz) ws') ∧ va_F (va_A ws sz) st t) mc ms (va_A ws sz)
theorem NW.ofW {l : Launch} {y : MethodName} {wd wd' : List Cond} {k : Nat} {G : BGT} {ws : va_W} {av : List Value} {mc ms : Nat} {post : va_W → Prop} {cc : ByteArray} {maxL : Nat} {C : String} (hy : plainName y.cls = true) (hw : wd = Cond.code y cc maxL none :: wd') (hC : y.cls = C) (hlen : (lg_sl av).length ≤ maxL) (hyn : y.name = "<init>")
    (body : ∀ (p : Program) (e : Env) (s : State) (m : MethodId) (args : Array Value) (below : List Frame) (meth : Method) (c : Code) (Q : State → Prop) (ls : Array Slot) (A : Nat → Prop), p.tables.exec = Jvm.exec → c.code = cc → c.maxLocals = maxL → (∀ w ∈ wd, w.before args s = true) → s.vm.findClass C = some m.cls → meth.name = "<init>" → va_P (gD G) vwCl ws s.heap → va_D A ws → va_S A s.heap s.heap [] → (∀ q : Nat, s.heap.size ≤ q → A q) → BG G A s s.heap → lv_has ls maxL (lv_args 0 av) →
      (∀ (pc : Nat) (ls : Array Slot) (H : Heap) (locs : List Loc) (cells slots : Nat) (ws' : va_W), decode cc pc = .ok (.return_, 1) → post ws' → va_P (gD G) vwCl ws' H → va_D A ws' → va_S A s.heap H locs → cells ≤ mc → slots ≤ ms → W p l e (rmn k mc ms) s m args below meth c H locs cells slots Q (F0 m pc ls [])) →
      W p l e (rmn k mc ms) s m args below meth c s.heap [] 0 0 Q (F0 m 0 ls [])) : NW l y wd k G ws av mc ms post := by
  intro sz
  refine Met.ofW (cc := cc) (maxL := maxL) (ret := none) hy hw ?_
  intro p e s m args below meth c s₁ B hml hv
  obtain ⟨rfl, hH, hP, hB, hD⟩ := hv
  subst hH
  have hlocks := B.notSynchronized
  have hown : s.vm.findClass y.cls = some m.cls := findClass_of_methodNamed B.named
  have hin : meth.name = y.name := (name_of_methodNamed B.named B.method).1
  rw [hC] at hown
  rw [hyn] at hin
  rw [lg_entry_eq]
  refine body p e s m _ below meth c _ _ (va_A ws s.heap.size) B.exec B.bytes hml (atoms_spec (ws := wd) B.pre) hown hin hP (hD.self (sz := s.heap.size)) va_S.rf (fun q h => Or.inr h) hB (lv_entry av hlen) ?_
  intro pc ls H locs cells slots ws' hd hp hP hD hS h1 h2
  refine W.widen h1 h2 ?_
  exact W.vret B.exec B.bytes B.returns (fun t ht _ => ⟨rfl, ⟨ws', hp, by rw [ht]; exact hP, hD⟩, hS.F ht⟩) hS.2.2 hd
section MAKE
variable {p : Program} {l : Launch} {e : Env} {R : Room} {s : State} {m : MethodId} {args : Array Value} {below : List Frame} {meth : Method} {c : Code} {H : Heap} {locs : List Loc} {cells slots : Nat} {Q : State → Prop}
variable {pc nL maxL idx n ky mc ms : Nat} {ls : Array Slot} {As rest st0 : List Value} {A : Nat → Prop} {G : BGT} {ws wc wr : va_W} {y : MethodName} {wy Ts : List Cond} {cc bytes : ByteArray} {own : String} {b : Nat} {post : va_W → Prop}
theorem nw_run {sz : Nat} (isC isR : List Nat) (hr : va_Run p l e R s m args below meth c H locs cells slots mc ms (F0 m pc ls st0) rest (fun st o t => o = .returned none ∧ (∃ ws', post ws' ∧ va_P (gD G) vwCl ws' t.heap ∧ va_D (va_A wc sz) ws') ∧ va_F (va_A wc sz) st t) (va_A wc sz)) (hsz : H.size = sz) (hC : isC.map (fun i => ws[i]?) = wc.map some) (hR : isR.map (fun i => ws[i]?) = wr.map some) (hn : va_nd isR = true) (hdis : ∀ i ∈ isR, i ∉ isC)
    (hD : va_D A ws) (hS : va_S A s.heap H locs) (hA : ∀ q : Nat, s.heap.size ≤ q → A q) (hP : va_P (gD G) vwCl ws H)
    (kk : ∀ (ws' : va_W) (H : Heap) (locs : List Loc), post ws' → va_P (gD G) vwCl (wr ++ ws') H → va_D A (wr ++ ws') → va_S A s.heap H locs → W p l e R s m args below meth c H locs (cells + mc) (slots + ms) Q (F0 m (pc + 3) ls rest)) : W p l e R s m args below meth c H locs cells slots Q (F0 m pc ls st0) := by
  subst hsz
  have hFc := va_free (wc := wc) hD hS hA isC hC
  intro T hT X
  obtain ⟨v, st₀, t, T', L, h0, X', hL, e1, e2, ⟨hv, ⟨ws', hp, hP1, hD1⟩, hz, hk⟩, st⟩ := hr T hT X
  cases hv
  rw [h0] at hz hk
  rw [← e1] at hz hk hP1
  obtain ⟨hP2, hD2⟩ := va_join (wr := wr) (w1 := ws') hP hD isC isR hC hR hn hdis hk hFc hP1 hD1
  have hS2 : va_S A s.heap T'.heap (locs ++ L) := by
    refine ⟨Nat.le_trans hS.1 hz, fun q h1 h2 => ?_, fun z hz9 => ?_⟩
    · rw [hk q (Nat.lt_of_lt_of_le h1 hS.1) (fun h => h2 (hFc q h))]
      exact hS.2.1 q h1 h2
    · rcases List.mem_append.mp hz9 with h | h
      · exact hS.2.2 z h
      · exact hFc _ (hL z h)
  obtain ⟨tg, a1, b1⟩ := kk ws' T'.heap (locs ++ L) hp hP2 hD2 hS2 T' rfl X'
  exact ⟨tg, st tg a1, b1⟩
/-- a constructor is called -/
theorem nw_I (hM : NW l y wy ky G wc (.ref b :: As) mc ms post) (isC isR : List Nat) (hC : isC.map (fun i => ws[i]?) = wc.map some) (hR : isR.map (fun i => ws[i]?) = wr.map some) (hnd : va_nd isC = true ∧ va_nd isR = true ∧ ∀ i ∈ isR, i ∉ isC) (hg : GoodIn Ts wy) (hw : ∃ w', wy = Cond.code y bytes maxL none :: w') (hd : y.cls ≠ "java/lang/invoke/MethodHandle" ∧ y.cls ≠ "java/lang/invoke/VarHandle" ∧ (parseMethodDescriptor y.desc).map (fun d => d.parameters.length) = some n) (hini : Cond.initialized y.cls ∈ Ts) (hlk : Cond.methodLink own idx y ∈ Ts) (hins : Cond.instanceMethod y ∈ Ts) (hyn : y.name = "<init>") (hdg : decode cc pc = .ok (.invokespecial idx, 3))
    (hn : As.length = n) (hst : st0 = As.reverse ++ .ref b :: rest) (hW : (rest.map fun v => v.category).sum ≤ 8) (hRm : ky + 1 ≤ R.frames ∧ 8 + (maxL + 11) + 40 * ky ≤ R.locals) (hf : cells + mc ≤ R.cells ∧ slots + ms ≤ R.slots)
    (hx : p.tables.exec = Jvm.exec) (hb : c.code = cc) (hml : c.maxLocals = nL) (hown : s.vm.findClass own = some m.cls) (hts : ∀ w ∈ Ts, w.before args s = true) (hB : BG G A s s.heap) (hD : va_D A ws) (hS : va_S A s.heap H locs) (hA : ∀ q : Nat, s.heap.size ≤ q → A q) (hP : va_P (gD G) vwCl ws H) (hls : ls.size = nL)
    (kk : ∀ (ws' : va_W) (H : Heap) (locs : List Loc), post ws' → va_P (gD G) vwCl (wr ++ ws') H → va_D A (wr ++ ws') → va_S A s.heap H locs → W p l e R s m args below meth c H locs (cells + mc) (slots + ms) Q (F0 m (pc + 3) ls rest)) : W p l e R s m args below meth c H locs cells slots Q (F0 m pc ls st0) := by
  obtain ⟨w', hw⟩ := hw
  exact nw_run isC isR (va_runI (g := F0 m pc ls st0) ⟨hx, hb, hml, hown, hts⟩ (hM H.size) (cwI n hts hg hw rfl rfl (hts _ hini) (hts _ hlk) (hts _ hins) hyn hd hRm) ⟨wr_blind, wr_pre (B := A) (As := .ref b :: As) isC hC hnd.1 hB hD hS hA hP⟩ rfl hn hls hst (lv_room hW) hdg hf) rfl hC hR hnd.2.1 hnd.2.2 hD hS hA hP kk
/-- a nest mate's private constructor is called -/
theorem nw_IN (hM : NW l y wy ky G wc (.ref b :: As) mc ms post) (isC isR : List Nat) (hC : isC.map (fun i => ws[i]?) = wc.map some) (hR : isR.map (fun i => ws[i]?) = wr.map some) (hnd : va_nd isC = true ∧ va_nd isR = true ∧ ∀ i ∈ isR, i ∉ isC) (hg : GoodIn Ts wy) (hw : ∃ w', wy = Cond.code y bytes maxL none :: w') (hd : y.cls ≠ "java/lang/invoke/MethodHandle" ∧ y.cls ≠ "java/lang/invoke/VarHandle" ∧ (parseMethodDescriptor y.desc).map (fun d => d.parameters.length) = some n) (kN : Nat) (hN : bgN[kN]? = some (own, idx, y)) (hini : Cond.initialized y.cls ∈ Ts) (hins : Cond.instanceMethod y ∈ Ts) (hyn : y.name = "<init>") (hdg : decode cc pc = .ok (.invokespecial idx, 3))
    (hn : As.length = n) (hst : st0 = As.reverse ++ .ref b :: rest) (hW : (rest.map fun v => v.category).sum ≤ 8) (hRm : ky + 1 ≤ R.frames ∧ 8 + (maxL + 11) + 40 * ky ≤ R.locals) (hf : cells + mc ≤ R.cells ∧ slots + ms ≤ R.slots)
    (hx : p.tables.exec = Jvm.exec) (hb : c.code = cc) (hml : c.maxLocals = nL) (hown : s.vm.findClass own = some m.cls) (hts : ∀ w ∈ Ts, w.before args s = true) (hB : BG G A s s.heap) (hD : va_D A ws) (hS : va_S A s.heap H locs) (hA : ∀ q : Nat, s.heap.size ≤ q → A q) (hP : va_P (gD G) vwCl ws H) (hls : ls.size = nL)
    (kk : ∀ (ws' : va_W) (H : Heap) (locs : List Loc), post ws' → va_P (gD G) vwCl (wr ++ ws') H → va_D A (wr ++ ws') → va_S A s.heap H locs → W p l e R s m args below meth c H locs (cells + mc) (slots + ms) Q (F0 m (pc + 3) ls rest)) : W p l e R s m args below meth c H locs cells slots Q (F0 m pc ls st0) := by
  obtain ⟨w', hw⟩ := hw
  exact nw_run isC isR (va_runIN (g := F0 m pc ls st0) ⟨hx, hb, hml, hown, hts⟩ (hM H.size) ⟨va_cnB n hts hg hw rfl rfl (hB.2.1 kN _ hN) (hts _ hini) hd hRm, hyn, hts _ hins⟩ ⟨wr_blind, wr_pre (B := A) (As := .ref b :: As) isC hC hnd.1 hB hD hS hA hP⟩ rfl hn hls hst (lv_room hW) hdg hf) rfl hC hR hnd.2.1 hnd.2.2 hD hS hA hP kk
theorem nw_I32 {k : Int32} {N : Nat} (hx : p.tables.exec = Jvm.exec) (hb : c.code = cc) (harr : (Cond.arrayClass .int).before args s = true) (hB : BG G A s s.heap) (hP : va_P (gD G) vwCl ws H) (hD : va_D A ws) (hS : va_S A s.heap H locs) (hA : ∀ q : Nat, s.heap.size ≤ q → A q) (hn : ¬ k < 0) (hN : k.toNatClampNeg = N) (hbytes : N * 4 ≤ 536870912) (hcells : cells + 1 ≤ R.cells) (hslots : slots + N ≤ R.slots) (hdg : decode cc pc = .ok (.newarray .int, 2))
    (kk : ∀ (q : Nat) (H : Heap), va_P (gD G) vwCl (ws ++ [aI G q N (fun _ => 0)]) H → va_D A (ws ++ [aI G q N (fun _ => 0)]) → va_S A s.heap H locs → W p l e R s m args below meth c H locs (cells + 1) (slots + N) Q (F0 m (pc + 2) ls (.ref q :: rest))) : W p l e R s m args below meth c H locs cells slots Q (F0 m pc ls (.int k :: rest)) := by
  refine va_newa (atype := .int) (ty := .int) (a0 := (N, .inl (fun _ => 0))) hx hb harr rfl hB.1 hP hD hS hA (fun _ => rfl) hn hN hbytes hcells hslots hdg (fun q cA H1 hK hP hD hS => ?_)
  have h1 : s.vm.findClass ("[" ++ FieldType.int.toString) = some (gI G) := (hB.1.2 1 _ rfl).2
  have h2 : s.vm.findClass ("[" ++ FieldType.int.toString) = some cA := (hK.2 3 _ rfl).2
  have h3 : cA = gI G := Option.some.inj (h2.symm.trans h1)
  subst h3
  exact kk q H1 hP hD hS
theorem nw_I64 {k : Int32} {N : Nat} (hx : p.tables.exec = Jvm.exec) (hb : c.code = cc) (harr : (Cond.arrayClass .long).before args s = true) (hB : BG G A s s.heap) (hP : va_P (gD G) vwCl ws H) (hD : va_D A ws) (hS : va_S A s.heap H locs) (hA : ∀ q : Nat, s.heap.size ≤ q → A q) (hn : ¬ k < 0) (hN : k.toNatClampNeg = N) (hbytes : N * 8 ≤ 536870912) (hcells : cells + 1 ≤ R.cells) (hslots : slots + N ≤ R.slots) (hdg : decode cc pc = .ok (.newarray .long, 2))
    (kk : ∀ (q : Nat) (H : Heap), va_P (gD G) vwCl (ws ++ [aJ G q N (fun _ => 0)]) H → va_D A (ws ++ [aJ G q N (fun _ => 0)]) → va_S A s.heap H locs → W p l e R s m args below meth c H locs (cells + 1) (slots + N) Q (F0 m (pc + 2) ls (.ref q :: rest))) : W p l e R s m args below meth c H locs cells slots Q (F0 m pc ls (.int k :: rest)) := by
  refine va_newa (atype := .long) (ty := .long) (a0 := (N, .inr (.inl (fun _ => 0)))) hx hb harr rfl hB.1 hP hD hS hA (fun _ => rfl) hn hN hbytes hcells hslots hdg (fun q cA H1 hK hP hD hS => ?_)
  have h1 : s.vm.findClass ("[" ++ FieldType.long.toString) = some (gJ G) := (hB.1.2 2 _ rfl).2
  have h2 : s.vm.findClass ("[" ++ FieldType.long.toString) = some cA := (hK.2 3 _ rfl).2
  have h3 : cA = gJ G := Option.some.inj (h2.symm.trans h1)
  subst h3
  exact kk q H1 hP hD hS
theorem nw_I8 {k : Int32} {N : Nat} (hx : p.tables.exec = Jvm.exec) (hb : c.code = cc) (harr : (Cond.arrayClass .byte).before args s = true) (hB : BG G A s s.heap) (hP : va_P (gD G) vwCl ws H) (hD : va_D A ws) (hS : va_S A s.heap H locs) (hA : ∀ q : Nat, s.heap.size ≤ q → A q) (hn : ¬ k < 0) (hN : k.toNatClampNeg = N) (hbytes : N * 1 ≤ 536870912) (hcells : cells + 1 ≤ R.cells) (hslots : slots + N ≤ R.slots) (hdg : decode cc pc = .ok (.newarray .byte, 2))
    (kk : ∀ (q : Nat) (H : Heap), va_P (gD G) vwCl (ws ++ [aB G q N (fun _ => 0)]) H → va_D A (ws ++ [aB G q N (fun _ => 0)]) → va_S A s.heap H locs → W p l e R s m args below meth c H locs (cells + 1) (slots + N) Q (F0 m (pc + 2) ls (.ref q :: rest))) : W p l e R s m args below meth c H locs cells slots Q (F0 m pc ls (.int k :: rest)) := by
  refine va_newa (atype := .byte) (ty := .byte) (a0 := (N, .inl (fun _ => 0))) hx hb harr rfl hB.1 hP hD hS hA (fun _ => rfl) hn hN hbytes hcells hslots hdg (fun q cA H1 hK hP hD hS => ?_)
  have h1 : s.vm.findClass ("[" ++ FieldType.byte.toString) = some (gB G) := (hB.1.2 0 _ rfl).2
  have h2 : s.vm.findClass ("[" ++ FieldType.byte.toString) = some cA := (hK.2 3 _ rfl).2
  have h3 : cA = gB G := Option.some.inj (h2.symm.trans h1)
  subst h3
  exact kk q H1 hP hD hS
end MAKE
