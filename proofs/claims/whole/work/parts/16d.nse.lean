/-! NSE: 'throw new NoSuchElementException(text)'. Its constructor links its superclass's by entry 13 here, where the kit's bundle has 7: the first link goes by its own bytes, the rest by the library's chain (the way follows the library's Stand.ctorThrowS and the kit's vx_throwS). -/
abbrev nse : String := "java/util/NoSuchElementException"
abbrev rte : String := "java/lang/RuntimeException"
abbrev nsB : ByteArray := prog_24_method_4_code
theorem ns_0 : decode nsB 0 = .ok (.aload_n 0, 1) := by decide +kernel
theorem ns_1 : decode nsB 1 = .ok (.aload_n 1, 1) := by decide +kernel
theorem ns_2 : decode nsB 2 = .ok (.invokespecial 13, 3) := by decide +kernel
theorem ns_5 : decode nsB 5 = .ok (.return_, 1) := by decide +kernel
def nsOwn : List Cond := [.methodLink RX6 122 (Bundle.initS nse), .instantiable nse 6, .castable nse nse, .selects nse Bundle.tFill0 Bundle.tFill0, .selects nse Bundle.tFill Bundle.tFill, .lays nse Bundle.tN "cause" "Ljava/lang/Throwable;", .lays nse Bundle.tN "stackTrace" Bundle.steD, .lays nse Bundle.tN "suppressedExceptions" Bundle.listD, .lays nse Bundle.tN "detailMessage" "Ljava/lang/String;", .isRef (.static Bundle.tN "UNASSIGNED_STACK" Bundle.steD), .isRef (.static Bundle.tN "SUPPRESSED_SENTINEL" Bundle.listD), .fieldLink Bundle.tN 198 Bundle.tN "backtrace" "Ljava/lang/Object;", .lays Bundle.tN Bundle.tN "backtrace" "Ljava/lang/Object;", .lays nse Bundle.tN "backtrace" "Ljava/lang/Object;"]
def nsAll : List Cond := Bundle.throwableAtoms ++ (Bundle.throwableSAtoms ++ (Bundle.passSAtoms nse rte 13 nsB ++ (Bundle.chainSAtoms rte ["java/lang/Exception"] ++ nsOwn)))
def nsAt : List Cond := nsAll.filter vx_no
theorem ns_1m {w : Cond} (h : w ∈ Bundle.throwableAtoms) : w ∈ nsAll := List.mem_append_left _ h
theorem ns_2m {w : Cond} (h : w ∈ Bundle.throwableSAtoms) : w ∈ nsAll := List.mem_append_right _ (List.mem_append_left _ h)
theorem ns_3m {w : Cond} (h : w ∈ Bundle.passSAtoms nse rte 13 nsB) : w ∈ nsAll := List.mem_append_right _ (List.mem_append_right _ (List.mem_append_left _ h))
theorem ns_4m {w : Cond} (h : w ∈ Bundle.chainSAtoms rte ["java/lang/Exception"]) : w ∈ nsAll := List.mem_append_right _ (List.mem_append_right _ (List.mem_append_right _ (List.mem_append_left _ h)))
theorem ns_5m {w : Cond} (h : w ∈ nsOwn) : w ∈ nsAll := List.mem_append_right _ (List.mem_append_right _ (List.mem_append_right _ (List.mem_append_right _ h)))
set_option maxHeartbeats 4000000 in
theorem nsThrow {p : Program} {l : Launch} {e : Env} {R : Room} {s : State} {m₀ : MethodId} {args : Array Value} {below : List Frame} {meth : Method} {c : Code} {W0 : State} {locs : List Loc} {cells slots : Nat}
    (X : Stand p l e R s m₀ args below meth c W0 locs cells slots) (hexec : p.tables.exec = Jvm.exec) (htr : e.platform.stackTraces = false)
    (hown : s.vm.findClass RX6 = some m₀.cls) (h : ∀ a ∈ nsAll, a.before args s = true)
    (hlocs : ∀ x ∈ locs, ∀ cell, s.heap[x.base]? = some cell → cell.vm.isStatics = false)
    {a : Addr} {cX : ClassId} {kX : Class} (hfoundX : s.vm.findClass nse = some cX) (hkX : s.vm.classes[cX]? = some kX) (hcell : W0.heap[a]? = some (freshCell cX kX)) (hnew : s.heap.size ≤ a)
    {msg : Value} (hmsg : msg.isRef = true)
    {g : JFrame} (hg : g.method = m₀) (hsize : g.locals.size = c.maxLocals) (hlocked : g.locked = none) (hentered : g.entered = []) {rest : List Value} (hstack : g.stack = msg :: .ref a :: .ref a :: rest)
    (hd6 : decode c.code g.pc = .ok (.invokespecial 122, 3)) (hd9 : decode c.code (g.pc + 3) = .ok (.athrow, 1)) (hout : ∀ x ∈ c.exceptionTable.toList, covers x (g.pc + 3) = false)
    (hRframes : 5 < R.frames) (hRlocals : 2 * g.monitorRoom + ((Value.ref a :: rest).map fun v => v.category).sum + (13 * 3 + 42) ≤ R.locals) (hlocks : meth.locks = false) :
    ∃ U : State, Steps p.tables e below (W0.setTop g) U ∧ U.status = .running ∧ Ended U below (.threw a) ∧ s.WarmedH U.vm ∧ s.sameButNew ({ U with vm := s.vm } : State) locs cells slots ∧
      ∃ ce, U.heap[a]? = some ce ∧ s.vm.findClass nse = some ce.cls ∧ ce.vm = .none := by
  have howns : e.platform.frameOwnsMonitors = true := by rw [X.admits.platform]
  have hfin : e.platform.finalization = false := by rw [X.admits.platform]
  have hpl : e.platform.magicAccessors = ({} : Platform).magicAccessors := by rw [X.admits.platform]
  have a' : ∀ x, x ∈ nsOwn → x.holds args s none s [] = true := fun x hx => h x (ns_5m hx)
  obtain ⟨T, Z0, L, -, Y⟩ := ThrowableC.of_atoms (args := args) howns hfin hpl (fun x hx => h x (ns_1m hx))
  obtain ⟨Z, M, LZ, LM, hnZ⟩ := Init0T.ofS_atoms (args := args) hpl L Y (fun x hx => h x (ns_2m hx))
  obtain ⟨P2, Ps, hlen, L2, hL, hP2m, hlink1, hlink⟩ := Bundle.chainS (args := args) hpl hnZ ["java/lang/Exception"] rte (by decide) (by decide) (fun x hx => h x (ns_4m hx))
  obtain ⟨P1, L1, hP1m, hs1⟩ := PassC.ofS_atoms (args := args) (s := s) hpl (X := nse) (Y := rte) (index := 13) (bytes := nsB) (by decide) (by decide) ns_0 ns_1 ns_2 ns_5 (fun x hx => h x (ns_3m hx))
  have hP12 := Option.some.inj (hs1.symm.trans hP2m)
  have hfound : s.vm.findClass nse = some P1.m.cls := findClass_of_methodNamed hP1m
  cases Option.some.inj (hfoundX.symm.trans hfound)
  obtain ⟨c1, kX', hc1, hk, hord, -, -, hn6⟩ := Cond.instantiable_spec (a' (.instantiable nse 6) (by simp [nsOwn]))
  cases Option.some.inj (hc1.symm.trans hfound)
  cases Option.some.inj (hkX.symm.trans hk)
  have hsel0 : selectMethod e.platform s.vm P1.m.cls T.fill0 = .method T.fill0 := by
    obtain ⟨c2, r2, m2, q1, q2, q3, q4, -⟩ := Cond.selects_spec (a' (.selects nse Bundle.tFill0 Bundle.tFill0) (by simp [nsOwn]))
    cases Option.some.inj (q1.symm.trans hfound)
    cases Option.some.inj (q2.symm.trans (State.methodFound?_of_named Y.fill0 (by decide)))
    cases Option.some.inj (q3.symm.trans Y.fill0)
    rw [Launch.admits_selectMethod X.admits]; exact q4
  have hselF : selectMethod e.platform s.vm P1.m.cls T.fill = .method T.fill := by
    obtain ⟨c2, r2, m2, q1, q2, q3, q4, -⟩ := Cond.selects_spec (a' (.selects nse Bundle.tFill Bundle.tFill) (by simp [nsOwn]))
    cases Option.some.inj (q1.symm.trans hfound)
    cases Option.some.inj (q2.symm.trans (State.methodFound?_of_named Y.fill (by decide)))
    cases Option.some.inj (q3.symm.trans Y.fill)
    rw [Launch.admits_selectMethod X.admits]; exact q4
  obtain ⟨cellS0, hcS0, hiss⟩ := Y.statics
  obtain ⟨u0, hu0⟩ := Cond.staticRefV Y.unassigned L.unassignedStatic L.statics hcS0 hiss (a' (.isRef (.static Bundle.tN "UNASSIGNED_STACK" Bundle.steD)) (by simp [nsOwn]))
  obtain ⟨sen, hsen⟩ := Cond.staticRefV Y.sentinel L.sentinelStatic L.statics hcS0 hiss (a' (.isRef (.static Bundle.tN "SUPPRESSED_SENTINEL" Bundle.listD)) (by simp [nsOwn]))
  obtain ⟨ci198, i198, fB, hk198, hg198, ha198, hsB, -, hnB, htB, hffB⟩ := Cond.ownField (t := .object "java/lang/Object") Y.found L.cls (by decide +kernel) (a' (.fieldLink Bundle.tN 198 Bundle.tN "backtrace" "Ljava/lang/Object;") (by simp [nsOwn])) (a' (.lays Bundle.tN Bundle.tN "backtrace" "Ljava/lang/Object;") (by simp [nsOwn])) e.platform hpl
  obtain ⟨cellS, hcS', heS, -, hkeep⟩ := X.same.2.2.2.2.2 T.aS cellS0 hcS0
  have hcellS : W0.heap[T.aS]? = some cellS := hcS'
  have hout' : ∀ i, (⟨T.aS, i⟩ : Loc) ∉ locs := fun i hmem => by
    have h9 := hlocs _ hmem cellS0 hcS0
    rw [hiss] at h9; cases h9
  have hknownS : cellS.vm ≠ .unknown := by
    rw [heS]; intro hu
    rw [show cellS0.vm = .unknown from hu] at hiss
    cases hiss
  have hneS : T.aS ≠ a := Nat.ne_of_lt (Nat.lt_of_lt_of_le (Array.getElem?_eq_some_iff.mp hcS0).1 hnew)
  obtain ⟨iM, hffM⟩ := Y.msg
  obtain ⟨tyC, dC, hdC, hdnC⟩ := Cond.laysAt hfound hk Y.cause (a' (.lays nse Bundle.tN "cause" "Ljava/lang/Throwable;") (by simp [nsOwn]))
  obtain ⟨tyS, dS, hdS, hdnS⟩ := Cond.laysAt hfound hk Y.stack (a' (.lays nse Bundle.tN "stackTrace" Bundle.steD) (by simp [nsOwn]))
  obtain ⟨tyP, dP, hdP, hdnP⟩ := Cond.laysAt hfound hk Y.supp (a' (.lays nse Bundle.tN "suppressedExceptions" Bundle.listD) (by simp [nsOwn]))
  obtain ⟨tyM, dM, hdM, hdnM⟩ := Cond.laysAt hfound hk hffM (a' (.lays nse Bundle.tN "detailMessage" "Ljava/lang/String;") (by simp [nsOwn]))
  obtain ⟨tyB, dB, hdB, hdnB⟩ := Cond.laysAt hfound hk hffB (a' (.lays nse Bundle.tN "backtrace" "Ljava/lang/Object;") (by simp [nsOwn]))
  have bC := Cond.laysApart hdB hdC hdnB hdnC (by rw [hnB, Y.causeName]; decide)
  have bS := Cond.laysApart hdB hdS hdnB hdnS (by rw [hnB, Y.stackName]; decide)
  have bP := Cond.laysApart hdB hdP hdnB hdnP (by rw [hnB, Y.suppName]; decide)
  have hskip : SkipFacts T e.platform s (fun u => u) u0 ((preparedCellV T.toThrowableT (freshCell P1.m.cls kX) a u0 sen).withEntry W0.cur) :=
    ⟨{ ci198 := ci198, i198 := i198, fBack := fB }, ⟨hk198, hg198, ha198, hsB⟩, by
      have h9 := fresh_default (c := P1.m.cls) tyB
      rw [htB] at h9
      simpa [preparedCellV, Cell.setSlot, Cell.withEntry, Array.getElem?_setIfInBounds, bC, bS, bP, bC.symm, bS.symm, bP.symm, defaultValue] using h9, fun _ _ => rfl⟩
  obtain ⟨tm, methC, cdC, kC, vm₁, hnC, -, -, -, -, -, -, -, hW₁, st1⟩ := Steps.initColdS (tb := p.tables) (e := e) (below := below) (s := s) (U := W0) X.here hexec X.warmed hpl hown (t := Bundle.initS nse) rfl rfl (by decide)
    (a' (.methodLink RX6 122 (Bundle.initS nse)) (by simp [nsOwn])) (h (.instanceMethod (Bundle.initS nse)) (ns_3m (by simp [Bundle.passSAtoms]))) (bytes := nsB) (maxL := 2) (h (.code (Bundle.initS nse) nsB 2 none) (ns_3m (by simp [Bundle.passSAtoms])))
    (f := g) hg (a := a) (msg := msg) (rest := .ref a :: rest) hstack hd6
  cases Option.some.inj (hnC.symm.trans hP1m)
  have X₁ := X.noted hW₁
  have hlen3 : (P1 :: P2 :: Ps).length = 3 := by simp [hlen]
  obtain ⟨vm₂, X₂, st2⟩ := X₁.ctorMessageOffV hexec (g := { g with stack := .ref a :: rest }) hg hsize T L Z LZ M LM (P1 :: P2 :: Ps)
    (fun P hP => by rcases List.mem_cons.mp hP with rfl | hP; exact L1; rcases List.mem_cons.mp hP with rfl | hP; exact L2; exact hL P hP) ⟨hP12, hlink1, hlink⟩ (u0 := u0) (sen := sen) (self := a) hmsg (cell := freshCell P1.m.cls kX) (cellS := cellS)
    hcell (fun _ => by simp) (by simp) rfl rfl hsel0 hselF hcellS hneS hknownS (by rw [hkeep _ (hout' _)]; exact hu0) (by rw [hkeep _ (hout' _)]; exact hsen)
    (Takes.of_laid hk hord tyC (by rw [Y.causeType]; rfl)) (Takes.of_laid hk hord tyS (by rw [Y.stackType]; exact fits_refV_array _ u0)) (Takes.of_laid hk hord tyP (by rw [Y.suppType]; exact fits_refV_object _ sen))
    (Takes.of_laid hk hord tyM (by rw [Y.msgType]; exact fits_refV_object _ ⟨msg, hmsg⟩)) Y.objLocals hskip htr [] hd6
    (by rw [hlen3]; omega) (by rw [hlen3]; exact hRlocals)
  obtain ⟨hwalk, hrun, hended, hWU, hsame⟩ := X₂.athrowLeaves hexec (g := { g with stack := .ref a :: rest, pc := g.pc + 3 }) hg hlocked hentered hout (a := a) (rest := rest) rfl hd9
  have hlt : a < ((W0.setVm vm₁).setVm vm₂).heap.size := (Array.getElem?_eq_some_iff.mp hcell).1
  have hU := heapAt_setCell_self (s := (W0.setVm vm₁).setVm vm₂) (plainBareV T.toThrowableT (freshCell P1.m.cls kX) a u0 sen msg) hlt
  refine ⟨_, st1 _ (fun acts => ?_), hrun, hended, hWU, hsame.weaken (fun y hy hlt' => ?_) (Nat.le_refl _) (Nat.le_refl _), _, hU, hfound, rfl⟩
  · rw [doInvoke_state]
    exact st2 _ hwalk
  · rcases List.mem_append.mp hy with h1 | h1
    · exact h1
    · exfalso
      have hb : y.base = a := by
        simp only [List.mem_cons, List.not_mem_nil, or_false] at h1
        rcases h1 with rfl | rfl | rfl | rfl | rfl <;> rfl
      rw [hb] at hlt'
      exact Nat.not_lt.mpr hnew hlt'
section
variable {p : Program} {l : Launch} {e : Env} {R : Room} {s : State} {m : MethodId} {args : Array Value} {below : List Frame} {meth : Method} {c : Code} {H : Heap} {locs : List Loc} {cells slots : Nat} {free : Addr → Prop} {ls : Array Slot} {rest : List Value} {Qc : Array Value → State → Outcome → State → Prop} {XC : String → State → State → Prop}
/-- the way is the kit's vx_throwS -/
theorem nx_throwS {cc : ByteArray} {pc : Nat} (hexec : p.tables.exec = Jvm.exec) (hb : c.code = cc) (hl : l.stackTraces = false) {text : String} {ik is mc ms sa : Nat} {A : Nat → Prop}
    (hown : s.vm.findClass RX6 = some m.cls)
    (hk : (Cond.classLink RX6 ik nse).before args s = true) (hini : (Cond.initialized nse).before args s = true) (hstr : vk_R RX6 is text sa s) (hat : ∀ w ∈ nsAt, w.before args s = true)
    (hgood : ∀ w ∈ Cond.classLink RX6 ik nse :: Cond.initialized nse :: nsAt, vx_ot w = true)
    (hU : vx_Zq Bundle.tN "UNASSIGNED_STACK" Bundle.steD A s s.heap) (hN : vx_Zq Bundle.tN "SUPPRESSED_SENTINEL" Bundle.listD A s s.heap) (hS : va_S A s.heap H locs) (hsize : ls.size = c.maxLocals)
    (d0 : decode cc pc = .ok (.new ik, 3)) (d3 : decode cc (pc + 3) = .ok (.dup, 1)) (d4 : decode cc (pc + 4) = .ok (.ldc is, 2)) (d6 : decode cc (pc + 6) = .ok (.invokespecial 122, 3)) (d9 : decode cc (pc + 9) = .ok (.athrow, 1))
    (hout : ∀ x ∈ c.exceptionTable.toList, covers x (pc + 9) = false)
    (hRframes : 5 < R.frames) (hRlocals : (rest.map fun v => v.category).sum + (13 * 3 + 43) ≤ R.locals) (hRcells : cells + 1 ≤ R.cells) (hRslots : slots + 6 ≤ R.slots) (hlocks : meth.locks = false)
    (hx : ∀ t : State, s.vm.Alike t.vm → H.size ≤ t.heap.size → (∀ q : Nat, q < H.size → t.heap[q]? = H[q]?) → XC nse s t)
    (hf : ∀ z ∈ locs, free z.base) (hc : cells + 1 ≤ mc) (hs : slots + 6 ≤ ms) :
    W p l e R s m args below meth c H locs cells slots (vx_MQ below Qc XC args s mc ms free) (F0 m pc ls rest) := by
  intro T hT X
  have htr : e.platform.stackTraces = false := (show e.platform.stackTraces = l.stackTraces by rw [X.admits.platform]).trans hl
  have Y := vx_rebase X (R' := { frames := R.frames, locals := R.locals, cells := 1, slots := 6 }) (Nat.le_refl _) (Nat.le_refl _) hRcells hRslots
  obtain ⟨s', hA⟩ : ∃ z, z = (T.setVm s.vm).setFrames (.invoking m args :: below) := ⟨_, rfl⟩
  rw [← hA] at Y
  have hvm : s'.vm = s.vm := by rw [hA]; rfl
  have hhp : s'.heap = H := by rw [hA]; exact hT
  have hW0 : s.WarmedH s'.vm := by rw [hvm]; exact State.WarmedH.refl s
  have hat' : ∀ w ∈ nsAt, w.before args s' = true := fun w hw => vx_ot_at hW0 hvm.symm (hgood w (List.mem_cons_of_mem _ (List.mem_cons_of_mem _ hw))) (hat w hw)
  have hk' : (Cond.classLink RX6 ik nse).before args s' = true := vx_ot_at hW0 hvm.symm (hgood _ List.mem_cons_self) hk
  have hini' : (Cond.initialized nse).before args s' = true := vx_ot_at hW0 hvm.symm (hgood _ (List.mem_cons_of_mem _ List.mem_cons_self)) hini
  have hU' : vx_Zq Bundle.tN "UNASSIGNED_STACK" Bundle.steD A s' s'.heap := by rw [hhp]; exact vx_Zq.moved hW0.alike (hU.kept hS.2.1)
  have hN' : vx_Zq Bundle.tN "SUPPRESSED_SENTINEL" Bundle.listD A s' s'.heap := by rw [hhp]; exact vx_Zq.moved hW0.alike (hN.kept hS.2.1)
  have h : ∀ w ∈ nsAll, w.before args s' = true := vx_own hat' (vx_isRefq hU'.1) (vx_isRefq hN'.1) hU'.2.word hN'.2.word
  have hown' : s'.vm.findClass RX6 = some m.cls := by rw [hvm]; exact hown
  have hins : (Cond.instantiable nse 6).before args s' = true := h _ (ns_5m (by simp [nsOwn]))
  obtain ⟨vm₁, cX, kX, hfX, hkX, -, -, X₁, st1⟩ := Y.newCold hexec (own := RX6) (C := nse) (index := ik) (n := 6) hown' hk' hins hini'
    (g := F0 m pc ls rest) rfl (by rw [hb]; exact d0) (Nat.le_refl _) (Nat.le_refl _)
  generalize hT1 : (T.setVm vm₁).pushCell { cls := cX, slots := kX.instanceTypes.map defaultValue, vm := .none } = T1 at X₁ st1
  have hcat : (Value.ref T.heap.size).category = 1 := rfl
  have hcellA : T1.heap[T.heap.size]? = some (freshCell cX kX) := by rw [← hT1]; exact State.heap_pushCell_size _ _
  have d3' : decode c.code (pc + 3) = .ok (.dup, 1) := by rw [hb]; exact d3
  have d4' : decode c.code (pc + 4) = .ok (.ldc is, 2) := by rw [hb]; exact d4
  have hstr' : vk_R RX6 is text sa s' := vk_R.warm hW0 hstr
  obtain ⟨U, hsteps, hrun, hend, hW, hsame, ce, hce, hOc, hOv⟩ := nsThrow X₁ hexec htr hown' h (fun x hx => nomatch hx) hfX hkX hcellA (by rw [hhp, hT]; exact Nat.le_refl _) (msg := .ref sa) rfl
    (g := { method := m, pc := pc + 6, locals := ls, stack := .ref sa :: .ref T.heap.size :: .ref T.heap.size :: rest, locked := none }) rfl hsize rfl rfl (rest := rest) rfl
    (by rw [hb]; exact d6) (by rw [hb]; exact d9) hout hRframes (by simp only [List.map_cons, List.sum_cons, hcat]; omega) hlocks
  obtain ⟨f1, f2⟩ := vx_frame hsame
  rw [hhp] at f1 f2
  have hWs : s.WarmedH U.vm := State.WarmedH.trans hW0 hW
  have hcl : s.vm.findClass nse = some ce.cls := by
    have h9 := hOc
    rw [hvm] at h9
    exact h9
  have hall : s.sameButNew ({ U with vm := s.vm } : State) locs mc ms := by
    subst hA
    obtain ⟨e1, e2⟩ := hsame
    rw [State.setFrames_setFrames] at e1
    have h2 : (T.setVm s.vm).sameButNew ({ U with vm := s.vm } : State) [] (0 + 1) (0 + 6) := ⟨e1, e2⟩
    have h3 := X.same.trans h2
    rw [List.append_nil] at h3
    exact h3.mono hc hs
  refine ⟨U, ?_, .threw T.heap.size, hrun, hend, Or.inr ⟨T.heap.size, rfl, nse, ce, locs, hx U hWs.alike f1 (fun q hq => f2 q hq (fun z hz => nomatch hz)), hce, hOv, hcl, hWs, hall, hf⟩⟩
  refine st1 _ ?_
  show Steps p.tables e below (T1.setTop { method := m, pc := pc + 3, locals := ls, stack := .ref T.heap.size :: rest, locked := none }) _
  jvm_step X₁.here [X₁.here.top, hexec, d3', Value.category]
  exact X₁.ldcString hexec (own := RX6) (text := text) (index := is) (a := sa) hown' hstr'.1 hstr'.2
    (g := { method := m, pc := pc + 4, locals := ls, stack := .ref T.heap.size :: .ref T.heap.size :: rest, locked := none }) rfl d4' _ hsteps
end
def wsN_good : List Cond := .code yX6_good cX6_good 3 (some .int) :: ([.classLink RX6 118 "java/util/NoSuchElementException", .initialized "java/util/NoSuchElementException", .fieldLink RX6 19 "ParcelSplit" "book" "LParcelSplit$Book;", .fieldLink RX6 56 "ParcelSplit" "plan" "LParcelSplit$Plan;", .methodLink RX6 115 yX0_hasGood, .instanceMethod yX0_hasGood, .selects RX0 yX0_hasGood yX0_hasGood, .initialized RX0, .code yX0_hasGood cX0_hasGood 2 (some .boolean), .fieldLink RX0 40 "ParcelSplit$Book" "goodCount" "I", .methodLink RX6 125 yX0_goodNumber, .instanceMethod yX0_goodNumber, .selects RX0 yX0_goodNumber yX0_goodNumber, .code yX0_goodNumber cX0_goodNumber 3 (some .int), .fieldLink RX0 21 "ParcelSplit$Book" "goods" "[I", .static yX6_at, .initialized RX6, .code yX6_at cX6_at 2 (some .int), .methodLink RX6 129 yX1_parcelOf, .instanceMethod yX1_parcelOf, .selects RX1 yX1_parcelOf yX1_parcelOf, .initialized RX1, .code yX1_parcelOf cX1_parcelOf 2 (some .int), .fieldLink RX1 11 "ParcelSplit$Plan" "state" "[I"] ++ wsX60 ++ wsX00 ++ wsX10 ++ nsAt.filter goodWord)
def wsM_good : List Cond := .codeWith yL_good cL_good 5 (some .int) [(0, 10, 13, 13)] :: ((wsL_good_r1 ++ wsL_good_r2) ++ wsX60 ++ wsX00 ++ wsX10 ++ nsAt.filter goodWord)
set_option maxRecDepth 20000 in
theorem ggN_good_X0_hasGood : GoodIn wsN_good wsX0_hasGood := goodIn_r _ [9, 10, 33, 34, 35, 36, 37, 38, 39, 40, 41, 42] (by decide +kernel) (by decide +kernel)
set_option maxRecDepth 20000 in
theorem gN_good_X0_hasGood : GoodIn wsN_good (wsV RX6 115 RX0 yX0_hasGood wsX0_hasGood) := goodIn_app (goodIn_of _ (by decide +kernel)) ggN_good_X0_hasGood
set_option maxRecDepth 20000 in
theorem ggN_good_X0_goodNumber : GoodIn wsN_good wsX0_goodNumber := goodIn_r _ [14, 15, 16, 17, 18, 33, 34, 35, 36, 37, 38, 39, 40, 41, 42] (by decide +kernel) (by decide +kernel)
set_option maxRecDepth 20000 in
theorem gN_good_X0_goodNumber : GoodIn wsN_good (wsV RX6 125 RX0 yX0_goodNumber wsX0_goodNumber) := goodIn_app (goodIn_of _ (by decide +kernel)) ggN_good_X0_goodNumber
set_option maxRecDepth 20000 in
theorem ggN_good_X1_parcelOf : GoodIn wsN_good wsX1_parcelOf := goodIn_r _ [23, 24, 16, 17, 18, 43, 44, 45, 46] (by decide +kernel) (by decide +kernel)
set_option maxRecDepth 20000 in
theorem gN_good_X1_parcelOf : GoodIn wsN_good (wsV RX6 129 RX1 yX1_parcelOf wsX1_parcelOf) := goodIn_app (goodIn_of _ (by decide +kernel)) ggN_good_X1_parcelOf
set_option maxRecDepth 20000 in
theorem ggM_good_N_good : GoodIn wsM_good wsN_good := goodIn_ca (goodIn_r _ [6, 7, 8, 9, 10, 11, 12, 13, 14, 15, 16, 17, 18, 19, 20, 21, 22, 5, 23, 24, 25, 26, 27, 28, 29, 30, 31, 32, 33, 34, 35, 36, 37, 38, 39, 40, 41, 42, 43, 44, 45, 46, 47, 48, 49, 50, 51] (by decide +kernel) (by decide +kernel)) (goodIn_sub (fun _ h => List.mem_cons_of_mem _ (List.mem_append_right _ h)) (by decide +kernel))
set_option maxRecDepth 20000 in
theorem gM_good_N_good : GoodIn wsM_good (wsV RL 7 RX6 yX6_good wsN_good) := goodIn_app (goodIn_of _ (by decide +kernel)) ggM_good_N_good
