/-! BASE: the background (classes, nest links, static arrays, string constants), the two forms of contract (a reader: the heap stays; a writer: its cells get new contents), how each begins, and how each is called. -/
abbrev BGT : Type := va_G × (ClassId × ClassId × ClassId) × (Nat → Nat) × (Nat → Nat) × (Nat → Nat)
abbrev gD (G : BGT) : va_G := G.1
abbrev gB (G : BGT) : ClassId := G.2.1.1
abbrev gI (G : BGT) : ClassId := G.2.1.2.1
abbrev gJ (G : BGT) : ClassId := G.2.1.2.2
abbrev gS (G : BGT) : Nat → Nat := G.2.2.1
abbrev gK (G : BGT) : Nat → Nat := G.2.2.2.1
abbrev gV (G : BGT) : Nat → Nat := G.2.2.2.2
abbrev gT (G : BGT) : List (ClassId × FieldType) := [(gB G, .byte), (gI G, .int), (gJ G, .long)]
abbrev aB (G : BGT) (a n : Nat) (f : Nat → Int32) : Nat × va_E := (a, .inl (gB G, n, .inl f))
abbrev aI (G : BGT) (a n : Nat) (f : Nat → Int32) : Nat × va_E := (a, .inl (gI G, n, .inl f))
abbrev aJ (G : BGT) (a n : Nat) (f : Nat → Int64) : Nat × va_E := (a, .inl (gJ G, n, .inr (.inl f)))
/-- the links to a nest mate's private methods -/
def bgN : List (String × Nat × MethodName) := [(RX6, 11, yX5_init), (RX6, 18, yX0_init), (RX6, 55, yX1_init), (RX0, 65, yX6_copy), (RX0, 87, yX6_at), (RX0, 80, yX6_store), (RX2, 37, yX6_at), (RX2, 45, yX6_store), (RX1, 52, yX6_store), (RX3, 75, yX6_at), (RX3, 92, yX6_store), (RX1, 48, yX6_at), (RX4, 64, yX6_at), (RX4, 81, yX6_store), (RX1, 38, yX6_copy)]
/-- the static arrays: class, name, contents -/
def bgS : List (String × String × List Int32) := [(RX0, "FIRST_CARRIER", [99, 999, 99, 0, 999, 0]), (RX0, "FIRST_BREAK", [99, 0, 0, 0]), (RX0, "FIRST_ZONES", [0, 0, 0, 0, 0]), (RX3, "COUNTS", [6, 4, 5, 3, 2]),
  (RX3, "LOWEST", [1, 1, 1, 0, 1, 0, 1, 0, 0, 0, 0, 0, 0, 0, 0, 0, 0, 0, 1, 1, 1, 0, 0, 0, 0, 0, 0, 0, 0, 0]), (RX3, "HIGHEST", [99, 999, 99, 99, 999, 999, 99, 999, 999, 999, 0, 0, 99, 3, 3, 3, 3, 0, 99, 999, 999, 0, 0, 0, 3, 99, 0, 0, 0, 0])]
/-- the string constants: class, entry, text; their lengths and bytes -/
def bgR : List (String × Nat × String) := [(RX3, 122, "carrier"), (RX3, 128, "break"), (RX3, 130, "zones"), (RX3, 132, "good"), (RX3, 134, "order"), (RX6, 120, "no such good"), (RX6, 133, "no such what")]
def bgL : List Nat := [7, 5, 5, 4, 5, 12, 12]
def bgY : List (List Int32) := [[99, 97, 114, 114, 105, 101, 114], [98, 114, 101, 97, 107], [122, 111, 110, 101, 115], [103, 111, 111, 100], [111, 114, 100, 101, 114], [110, 111, 32, 115, 117, 99, 104, 32, 103, 111, 111, 100], [110, 111, 32, 115, 117, 99, 104, 32, 119, 104, 97, 116]]
/-- what stays as it is through every call: A are the cells that may change -/
def BG (G : BGT) (A : Nat → Prop) (U : State) (H : Heap) : Prop :=
  va_K (gD G) vwCl (gT G) U ∧ (∀ (i : Nat) (q : String × Nat × MethodName), bgN[i]? = some q → va_Nw (.methodLinkNest q.1 q.2.1 q.2.2 RX6) U) ∧
  (∀ (i : Nat) (q : String × String × List Int32), bgS[i]? = some q → va_Z q.1 q.2.1 "[I" (.ref (gS G i)) A U H ∧ va_T .int (gS G i) q.2.2.length (fun j => .int (q.2.2.getD j 0)) A U H) ∧
  (∀ (i : Nat) (q : String × Nat × String), bgR[i]? = some q → vk_R q.1 q.2.1 q.2.2 (gK G i) U) ∧ vk_S 7 bgL bgY (gK G) (gV G) A U H ∧
  va_Z RJ0 "COMPACT_STRINGS" "Z" (.int 1) A U H ∧ va_Zq RJ3 "SIOOBE_FORMATTER" "Ljava/util/function/BiFunction;" A U H
theorem BG.warm {G : BGT} {A : Nat → Prop} {s U : State} {H : Heap} (h : BG G A s H) (hW : s.WarmedH U.vm) : BG G A U H := by
  obtain ⟨h1, h2, h3, h4, h5, h6, h7⟩ := h
  exact ⟨va_K.moved hW.alike h1, fun i q hq => va_Nw.warmM hW (h2 i q hq), fun i q hq => ⟨va_Z.moved hW.alike (h3 i q hq).1, va_T.moved hW.alike (h3 i q hq).2⟩, fun i q hq => vk_R.warm hW (h4 i q hq), vk_S.moved hW.alike h5, va_Z.moved hW.alike h6, va_Zq.moved hW.alike h7⟩
theorem BG.blind {G : BGT} {A : Nat → Prop} {U : State} {H : Heap} {a : Array Value} {g : JFrame} {mk : MethodId} (h : BG G A U H) : BG G A (U.calling g mk a) H := by
  obtain ⟨h1, h2, h3, h4, h5, h6, h7⟩ := h
  exact ⟨va_K.moved (u := U) (U := U.calling g mk a) (Vm.Alike.refl U.vm) h1, fun i q hq => va_Nw.same (u := U) (U := U.calling g mk a) rfl rfl (h2 i q hq), fun i q hq => ⟨va_Z.moved (u := U) (U := U.calling g mk a) (Vm.Alike.refl U.vm) (h3 i q hq).1, va_T.moved (u := U) (U := U.calling g mk a) (Vm.Alike.refl U.vm) (h3 i q hq).2⟩, fun i q hq => vk_R.same (u := U) (U := U.calling g mk a) rfl (h4 i q hq), vk_S.moved (u := U) (U := U.calling g mk a) (Vm.Alike.refl U.vm) h5, va_Z.moved (u := U) (U := U.calling g mk a) (Vm.Alike.refl U.vm) h6, va_Zq.moved (u := U) (U := U.calling g mk a) (Vm.Alike.refl U.vm) h7⟩
theorem BG.kept {G : BGT} {A : Nat → Prop} {U : State} {H H1 : Heap} (h : BG G A U H) (hq : ∀ a : Nat, a < H.size → ¬ A a → H1[a]? = H[a]?) : BG G A U H1 := by
  obtain ⟨h1, h2, h3, h4, h5, h6, h7⟩ := h
  exact ⟨h1, h2, fun i q hi => ⟨(h3 i q hi).1.kept hq, (h3 i q hi).2.kept hq⟩, h4, h5.kept hq, h6.kept hq, h7.kept hq⟩
theorem BG.narrow {G : BGT} {A B : Nat → Prop} {U : State} {H : Heap} (h : BG G A U H) (hAB : ∀ q, B q → A q) : BG G B U H := by
  obtain ⟨h1, h2, h3, h4, h5, h6, h7⟩ := h
  exact ⟨h1, h2, fun i q hi => ⟨(h3 i q hi).1.narrow hAB, (h3 i q hi).2.narrow hAB⟩, h4, h5.narrow hAB, h6.narrow hAB, h7.narrow hAB⟩
theorem BG.K {G : BGT} {A : Nat → Prop} {U : State} {H : Heap} (h : BG G A U H) : va_K (gD G) vwCl (gT G) U := h.1
/-- a level's room -/
abbrev rm (k : Nat) : Room := { frames := k, cells := 0, slots := 0, locals := 40 * k }
/-- a reader's contract: the heap stays, the answer is ov -/
def RO (l : Launch) (y : MethodName) (wd : List Cond) (k : Nat) (G : BGT) (ws : va_W) (av : List Value) (ov : Option Value) : Prop :=
  ∀ H0 : Heap, Met l y wd (rm k) (va_Pc av (fun U => U.heap = H0 ∧ va_P (gD G) vwCl ws H0 ∧ BG G (fun _ => False) U H0)) (fun _ _ o t => o = .returned ov ∧ t.heap = H0) 0 0 (fun _ => False)
/-- a writer's contract: the cells ws become ws', the answer is ov -/
def WR (l : Launch) (y : MethodName) (wd : List Cond) (k : Nat) (G : BGT) (ws ws' : va_W) (av : List Value) (ov : Option Value) : Prop :=
  ∀ sz : Nat, Met l y wd (rm k) (va_Pc av (fun U => U.heap.size = sz ∧ va_P (gD G) vwCl ws U.heap ∧ BG G (va_A ws sz) U U.heap ∧ va_D (fun _ => True) ws)) (fun _ st o t => o = .returned ov ∧ va_P (gD G) vwCl ws' t.heap ∧ va_D (va_A ws sz) ws' ∧ va_F (va_A ws sz) st t) 0 0 (va_A ws sz)
/-- the beginning of a reader's body -/
theorem RO.ofW {l : Launch} {y : MethodName} {wd wd' : List Cond} {k : Nat} {G : BGT} {ws : va_W} {av : List Value} {ov : Option Value} {cc : ByteArray} {maxL : Nat} {ret : Option FieldType} {C : String} (hy : plainName y.cls = true) (hw : wd = Cond.code y cc maxL ret :: wd') (hC : y.cls = C) (hlen : (lg_sl av).length ≤ maxL)
    (body : ∀ (p : Program) (e : Env) (s : State) (m : MethodId) (args : Array Value) (below : List Frame) (meth : Method) (c : Code) (Q : State → Prop) (ls : Array Slot), p.tables.exec = Jvm.exec → c.code = cc → c.maxLocals = maxL → (∀ w ∈ wd, w.before args s = true) → s.vm.findClass C = some m.cls → va_P (gD G) vwCl ws s.heap → BG G (fun _ => False) s s.heap → lv_has ls maxL (lv_args 0 av) →
      (∀ (pc : Nat) (ls : Array Slot) (x : Int32) (ty : FieldType), ret = some ty → narrow ty (.int x) = .int x → decode cc pc = .ok (.ireturn, 1) → ov = some (.int x) → W p l e (rm k) s m args below meth c s.heap [] 0 0 Q (F0 m pc ls [.int x])) →
      (∀ (pc : Nat) (ls : Array Slot) (x : Int64), ret = some .long → decode cc pc = .ok (.lreturn, 1) → ov = some (.long x) → W p l e (rm k) s m args below meth c s.heap [] 0 0 Q (F0 m pc ls [.long x])) →
      (∀ (pc : Nat) (ls : Array Slot), ret = none → decode cc pc = .ok (.return_, 1) → ov = none → W p l e (rm k) s m args below meth c s.heap [] 0 0 Q (F0 m pc ls [])) →
      W p l e (rm k) s m args below meth c s.heap [] 0 0 Q (F0 m 0 ls [])) : RO l y wd k G ws av ov := by
  intro H0
  refine Met.ofW (cc := cc) (maxL := maxL) (ret := ret) hy hw ?_
  intro p e s m args below meth c s₁ B hml hv
  obtain ⟨rfl, hH, hP, hB⟩ := hv
  subst hH
  have hlocks := B.notSynchronized
  have hown : s.vm.findClass y.cls = some m.cls := findClass_of_methodNamed B.named
  rw [hC] at hown
  rw [lg_entry_eq]
  refine body p e s m _ below meth c _ _ B.exec B.bytes hml (atoms_spec (ws := wd) B.pre) hown hP hB (lv_entry av hlen) ?_ ?_ ?_
  · intro pc ls x ty hr hn hd hv
    exact W.zret B.exec B.bytes (B.returns.trans hr) hn (fun t ht _ => ⟨by rw [hv], ht⟩) (fun _ h => by cases h) hd
  · intro pc ls x hr hd hv
    exact W.lret B.exec B.bytes (B.returns.trans hr) (fun t ht _ => ⟨by rw [hv], ht⟩) (fun _ h => by cases h) hd
  · intro pc ls hr hd hv
    exact W.vret B.exec B.bytes (B.returns.trans hr) (fun t ht _ => ⟨by rw [hv], ht⟩) (fun _ h => by cases h) hd
/-- the beginning of a writer's body: A are its cells -/
theorem WR.ofW {l : Launch} {y : MethodName} {wd wd' : List Cond} {k : Nat} {G : BGT} {ws ws' : va_W} {av : List Value} {ov : Option Value} {cc : ByteArray} {maxL : Nat} {ret : Option FieldType} {C : String} (hy : plainName y.cls = true) (hw : wd = Cond.code y cc maxL ret :: wd') (hC : y.cls = C) (hlen : (lg_sl av).length ≤ maxL)
    (body : ∀ (p : Program) (e : Env) (s : State) (m : MethodId) (args : Array Value) (below : List Frame) (meth : Method) (c : Code) (Q : State → Prop) (ls : Array Slot) (A : Nat → Prop), p.tables.exec = Jvm.exec → c.code = cc → c.maxLocals = maxL → (∀ w ∈ wd, w.before args s = true) → s.vm.findClass C = some m.cls → va_P (gD G) vwCl ws s.heap → va_D A ws → va_S A s.heap s.heap [] → (∀ q : Nat, s.heap.size ≤ q → A q) → BG G A s s.heap → lv_has ls maxL (lv_args 0 av) →
      (∀ (pc : Nat) (ls : Array Slot) (x : Int32) (ty : FieldType) (H : Heap) (locs : List Loc), ret = some ty → narrow ty (.int x) = .int x → decode cc pc = .ok (.ireturn, 1) → ov = some (.int x) → va_P (gD G) vwCl ws' H → va_D A ws' → va_S A s.heap H locs → W p l e (rm k) s m args below meth c H locs 0 0 Q (F0 m pc ls [.int x])) →
      (∀ (pc : Nat) (ls : Array Slot) (H : Heap) (locs : List Loc), ret = none → decode cc pc = .ok (.return_, 1) → ov = none → va_P (gD G) vwCl ws' H → va_D A ws' → va_S A s.heap H locs → W p l e (rm k) s m args below meth c H locs 0 0 Q (F0 m pc ls [])) →
      W p l e (rm k) s m args below meth c s.heap [] 0 0 Q (F0 m 0 ls [])) : WR l y wd k G ws ws' av ov := by
  intro sz
  refine Met.ofW (cc := cc) (maxL := maxL) (ret := ret) hy hw ?_
  intro p e s m args below meth c s₁ B hml hv
  obtain ⟨rfl, hH, hP, hB, hD⟩ := hv
  subst hH
  have hlocks := B.notSynchronized
  have hown : s.vm.findClass y.cls = some m.cls := findClass_of_methodNamed B.named
  rw [hC] at hown
  rw [lg_entry_eq]
  refine body p e s m _ below meth c _ _ (va_A ws s.heap.size) B.exec B.bytes hml (atoms_spec (ws := wd) B.pre) hown hP (hD.self (sz := s.heap.size)) va_S.rf (fun q h => Or.inr h) hB (lv_entry av hlen) ?_ ?_
  · intro pc ls x ty H locs hr hn hd hv hP hD hS
    exact W.zret B.exec B.bytes (B.returns.trans hr) hn (fun t ht _ => ⟨by rw [hv], by rw [ht]; exact hP, hD, hS.F ht⟩) hS.2.2 hd
  · intro pc ls H locs hr hd hv hP hD hS
    exact W.vret B.exec B.bytes (B.returns.trans hr) (fun t ht _ => ⟨by rw [hv], by rw [ht]; exact hP, hD, hS.F ht⟩) hS.2.2 hd
section CALLS
variable {p : Program} {l : Launch} {e : Env} {R : Room} {s : State} {m : MethodId} {args : Array Value} {below : List Frame} {meth : Method} {c : Code} {H : Heap} {locs : List Loc} {cells slots : Nat} {Q : State → Prop}
variable {pc nL maxL idx n ky : Nat} {ls : Array Slot} {As rest st0 : List Value} {A : Nat → Prop} {G : BGT} {ws wc wc' wr wf : va_W} {y : MethodName} {wy Ts : List Cond} {cc bytes : ByteArray} {ret : Option FieldType} {own C : String} {ov : Option Value} {b ci q0 : Nat} {fs : List Value} {cq : vw_C}
theorem ro_run (hr : va_Run p l e R s m args below meth c H locs cells slots 0 0 (F0 m pc ls st0) rest (fun _ o t => o = .returned ov ∧ t.heap = H) (fun _ => False)) (kk : W p l e R s m args below meth c H locs cells slots Q (F0 m (pc + 3) ls (ov.toList ++ rest))) : W p l e R s m args below meth c H locs cells slots Q (F0 m pc ls st0) := by
  intro T hT X
  obtain ⟨v, st₀, t, T', L, h0, X', hL, e1, e2, ⟨hv, hh⟩, st⟩ := hr T hT X
  have hL0 : L = [] := by
    cases L with
    | nil => rfl
    | cons a l => exact (hL a List.mem_cons_self).elim
  subst hL0
  rw [List.append_nil] at X'
  cases hv
  obtain ⟨tg, a1, b1⟩ := kk T' (e1.trans hh) X'
  exact ⟨tg, st tg a1, b1⟩
theorem ro_blind {av : List Value} {H0 : Heap} : FrameBlind (va_Pc av (fun U => U.heap = H0 ∧ va_P (gD G) vwCl ws H0 ∧ BG G (fun _ => False) U H0)) := fun a U g mk q => ⟨q.1, q.2.1, q.2.2.1, q.2.2.2.blind⟩
theorem wr_blind {av : List Value} {sz : Nat} : FrameBlind (va_Pc av (fun U => U.heap.size = sz ∧ va_P (gD G) vwCl ws U.heap ∧ BG G (va_A ws sz) U U.heap ∧ va_D (fun _ => True) ws)) := fun a U g mk q => ⟨q.1, q.2.1, q.2.2.1, BG.blind (H := U.heap) q.2.2.2.1, q.2.2.2.2⟩
/-- a reader is called: static, in its own class or a stranger's public one -/
theorem ro_S (hM : RO l y wy ky G wc As ov) (is : List Nat) (hsub : is.filterMap (fun i => ws[i]?) = wc) (hg : GoodIn Ts (va_wsS own idx y wy)) (hw : ∃ w', wy = Cond.code y bytes maxL ret :: w') (hd : y.cls ≠ "java/lang/invoke/MethodHandle" ∧ y.cls ≠ "java/lang/invoke/VarHandle" ∧ (parseMethodDescriptor y.desc).map (fun d => d.parameters.length) = some n) (hdg : decode cc pc = .ok (.invokestatic idx, 3))
    (hn : As.length = n) (hst : st0 = As.reverse ++ rest) (hW : (rest.map fun v => v.category).sum ≤ 8) (hR : ky + 1 ≤ R.frames ∧ 8 + (maxL + 11) + 40 * ky ≤ R.locals) (hf : cells ≤ R.cells ∧ slots ≤ R.slots)
    (hx : p.tables.exec = Jvm.exec) (hb : c.code = cc) (hml : c.maxLocals = nL) (hown : s.vm.findClass own = some m.cls) (hts : ∀ w ∈ Ts, w.before args s = true) (hB : BG G A s s.heap) (hS : va_S A s.heap H locs) (hP : va_P (gD G) vwCl ws H) (hls : ls.size = nL)
    (kk : W p l e R s m args below meth c H locs cells slots Q (F0 m (pc + 3) ls (ov.toList ++ rest))) : W p l e R s m args below meth c H locs cells slots Q (F0 m pc ls st0) := by
  obtain ⟨w', hw⟩ := hw
  exact ro_run (va_runS (g := F0 m pc ls st0) ⟨hx, hb, hml, hown, hts⟩ (hM H) (va_cwS n hts hg hw rfl rfl hd hR) ⟨ro_blind, fun U hU hW => ⟨rfl, hU, hP.sub is hsub, ((hB.kept hS.2.1).narrow (fun _ h => h.elim)).warm hW⟩⟩ rfl hn hls hst (lv_room hW) hdg hf) kk
/-- the same, of a nest mate's private method -/
theorem ro_SN (hM : RO l y wy ky G wc As ov) (is : List Nat) (hsub : is.filterMap (fun i => ws[i]?) = wc) (hg : GoodIn Ts wy) (hw : ∃ w', wy = Cond.code y bytes maxL ret :: w') (hd : y.cls ≠ "java/lang/invoke/MethodHandle" ∧ y.cls ≠ "java/lang/invoke/VarHandle" ∧ (parseMethodDescriptor y.desc).map (fun d => d.parameters.length) = some n) (kN : Nat) (hN : bgN[kN]? = some (own, idx, y)) (hini : Cond.initialized y.cls ∈ Ts) (hsta : Cond.static y ∈ Ts) (hdg : decode cc pc = .ok (.invokestatic idx, 3))
    (hn : As.length = n) (hst : st0 = As.reverse ++ rest) (hW : (rest.map fun v => v.category).sum ≤ 8) (hR : ky + 1 ≤ R.frames ∧ 8 + (maxL + 11) + 40 * ky ≤ R.locals) (hf : cells ≤ R.cells ∧ slots ≤ R.slots)
    (hx : p.tables.exec = Jvm.exec) (hb : c.code = cc) (hml : c.maxLocals = nL) (hown : s.vm.findClass own = some m.cls) (hts : ∀ w ∈ Ts, w.before args s = true) (hB : BG G A s s.heap) (hS : va_S A s.heap H locs) (hP : va_P (gD G) vwCl ws H) (hls : ls.size = nL)
    (kk : W p l e R s m args below meth c H locs cells slots Q (F0 m (pc + 3) ls (ov.toList ++ rest))) : W p l e R s m args below meth c H locs cells slots Q (F0 m pc ls st0) := by
  obtain ⟨w', hw⟩ := hw
  exact ro_run (va_runSN (g := F0 m pc ls st0) ⟨hx, hb, hml, hown, hts⟩ (hM H) ⟨va_cnB n hts hg hw rfl rfl (hB.2.1 kN _ hN) (hts _ hini) hd hR, hts _ hsta, trivial⟩ ⟨ro_blind, fun U hU hW => ⟨rfl, hU, hP.sub is hsub, ((hB.kept hS.2.1).narrow (fun _ h => h.elim)).warm hW⟩⟩ rfl hn hls hst (lv_room hW) hdg hf) kk
/-- a reader is called: an instance's method -/
theorem ro_V (hM : RO l y wy ky G wc (.ref b :: As) ov) (is : List Nat) (hsub : is.filterMap (fun i => ws[i]?) = wc) (he : ws[q0]? = some (b, .inr (ci, fs))) (hc : vwCl[ci]? = some cq) (hcC : cq.1 = C) (hg : GoodIn Ts (wsV own idx C y wy)) (hw : ∃ w', wy = Cond.code y bytes maxL ret :: w') (hd : y.cls ≠ "java/lang/invoke/MethodHandle" ∧ y.cls ≠ "java/lang/invoke/VarHandle" ∧ (parseMethodDescriptor y.desc).map (fun d => d.parameters.length) = some n) (hyC : y.cls = C) (hdg : decode cc pc = .ok (.invokevirtual idx, 3))
    (hn : As.length = n) (hst : st0 = As.reverse ++ .ref b :: rest) (hW : (rest.map fun v => v.category).sum ≤ 8) (hR : ky + 1 ≤ R.frames ∧ 8 + (maxL + 11) + 40 * ky ≤ R.locals) (hf : cells ≤ R.cells ∧ slots ≤ R.slots)
    (hx : p.tables.exec = Jvm.exec) (hb : c.code = cc) (hml : c.maxLocals = nL) (hown : s.vm.findClass own = some m.cls) (hts : ∀ w ∈ Ts, w.before args s = true) (hB : BG G A s s.heap) (hS : va_S A s.heap H locs) (hP : va_P (gD G) vwCl ws H) (hls : ls.size = nL)
    (kk : W p l e R s m args below meth c H locs cells slots Q (F0 m (pc + 3) ls (ov.toList ++ rest))) : W p l e R s m args below meth c H locs cells slots Q (F0 m pc ls st0) := by
  obtain ⟨w', hw⟩ := hw
  subst hcC
  exact ro_run (va_runV (g := F0 m pc ls st0) ⟨hx, hb, hml, hown, hts⟩ (hM H) (cwV n hts hg hw rfl rfl ⟨hyC, hd⟩ hR) ⟨ro_blind, va_recv hB.1 hP hc he, fun U hU hW => ⟨rfl, hU, hP.sub is hsub, ((hB.kept hS.2.1).narrow (fun _ h => h.elim)).warm hW⟩⟩ rfl hn hls hst (lv_room hW) hdg hf) kk
theorem wr_run {sz : Nat} (isC isR isF : List Nat) (hr : va_Run p l e R s m args below meth c H locs cells slots 0 0 (F0 m pc ls st0) rest (fun st o t => o = .returned ov ∧ va_P (gD G) vwCl wc' t.heap ∧ va_D (va_A wc sz) wc' ∧ va_F (va_A wc sz) st t) (va_A wc sz)) (hsz : H.size = sz) (hC : isC.map (fun i => ws[i]?) = wc.map some) (hR : isR.map (fun i => ws[i]?) = wr.map some) (hn : va_nd isR = true) (hdis : ∀ i ∈ isR, i ∉ isC) (hnF : va_nd isF = true) (hF : isF.map (fun i => (wr ++ wc')[i]?) = wf.map some)
    (hD : va_D A ws) (hS : va_S A s.heap H locs) (hA : ∀ q : Nat, s.heap.size ≤ q → A q) (hP : va_P (gD G) vwCl ws H)
    (kk : ∀ (H : Heap) (locs : List Loc), va_P (gD G) vwCl wf H → va_D A wf → va_S A s.heap H locs → W p l e R s m args below meth c H locs cells slots Q (F0 m (pc + 3) ls (ov.toList ++ rest))) : W p l e R s m args below meth c H locs cells slots Q (F0 m pc ls st0) := by
  subst hsz
  have hFc := va_free (wc := wc) hD hS hA isC hC
  intro T hT X
  obtain ⟨v, st₀, t, T', L, h0, X', hL, e1, e2, ⟨hv, hP1, hD1, hz, hk⟩, st⟩ := hr T hT X
  cases hv
  rw [h0] at hz hk
  rw [← e1] at hz hk hP1
  obtain ⟨hP2, hD2⟩ := va_join (wr := wr) (w1 := wc') hP hD isC isR hC hR hn hdis hk hFc hP1 hD1
  have hS2 : va_S A s.heap T'.heap (locs ++ L) := by
    refine ⟨Nat.le_trans hS.1 hz, fun q h1 h2 => ?_, fun z hz9 => ?_⟩
    · rw [hk q (Nat.lt_of_lt_of_le h1 hS.1) (fun h => h2 (hFc q h))]
      exact hS.2.1 q h1 h2
    · rcases List.mem_append.mp hz9 with h | h
      · exact hS.2.2 z h
      · exact hFc _ (hL z h)
  have hPf : va_P (gD G) vwCl wf T'.heap := by
    refine hP2.sub isF ?_
    have h9 : isF.filterMap (fun i => (wr ++ wc')[i]?) = (isF.map (fun i => (wr ++ wc')[i]?)).filterMap id := by rw [List.filterMap_map]; rfl
    rw [h9, hF]
    simp
  obtain ⟨tg, a1, b1⟩ := kk T'.heap (locs ++ L) hPf (hD2.sub isF hnF hF) hS2 T' rfl X'
  exact ⟨tg, st tg a1, b1⟩
theorem wr_pre {B : Nat → Prop} (isC : List Nat) (hC : isC.map (fun i => ws[i]?) = wc.map some) (hnC : va_nd isC = true) (hB : BG G A s s.heap) (hD : va_D A ws) (hS : va_S A s.heap H locs) (hA : ∀ q : Nat, s.heap.size ≤ q → A q) (hP : va_P (gD G) vwCl ws H) : ∀ U : State, U.heap = H → s.WarmedH U.vm → va_Pc As (fun U => U.heap.size = H.size ∧ va_P (gD G) vwCl wc U.heap ∧ BG G (va_A wc H.size) U U.heap ∧ va_D (fun _ => True) wc) As.toArray U := by
  intro U hU hW
  have hFc := va_free (wc := wc) hD hS hA isC hC
  have hPc : va_P (gD G) vwCl wc H := by
    refine hP.sub isC ?_
    have h9 : isC.filterMap (fun i => ws[i]?) = (isC.map (fun i => ws[i]?)).filterMap id := by rw [List.filterMap_map]; rfl
    rw [h9, hC]
    simp
  refine ⟨rfl, by rw [hU], by rw [hU]; exact hPc, ?_, (hD.sub isC hnC hC).weaken (fun _ _ _ _ => trivial)⟩
  rw [hU]
  exact ((hB.kept hS.2.1).narrow hFc).warm hW
/-- a writer is called: static, in its own class -/
theorem wr_S (hM : WR l y wy ky G wc wc' As ov) (isC isR isF : List Nat) (hC : isC.map (fun i => ws[i]?) = wc.map some) (hR : isR.map (fun i => ws[i]?) = wr.map some) (hF : isF.map (fun i => (wr ++ wc')[i]?) = wf.map some) (hnd : va_nd isC = true ∧ va_nd isR = true ∧ va_nd isF = true ∧ ∀ i ∈ isR, i ∉ isC) (hg : GoodIn Ts (va_wsS own idx y wy)) (hw : ∃ w', wy = Cond.code y bytes maxL ret :: w') (hd : y.cls ≠ "java/lang/invoke/MethodHandle" ∧ y.cls ≠ "java/lang/invoke/VarHandle" ∧ (parseMethodDescriptor y.desc).map (fun d => d.parameters.length) = some n) (hdg : decode cc pc = .ok (.invokestatic idx, 3))
    (hn : As.length = n) (hst : st0 = As.reverse ++ rest) (hW : (rest.map fun v => v.category).sum ≤ 8) (hRm : ky + 1 ≤ R.frames ∧ 8 + (maxL + 11) + 40 * ky ≤ R.locals) (hf : cells ≤ R.cells ∧ slots ≤ R.slots)
    (hx : p.tables.exec = Jvm.exec) (hb : c.code = cc) (hml : c.maxLocals = nL) (hown : s.vm.findClass own = some m.cls) (hts : ∀ w ∈ Ts, w.before args s = true) (hB : BG G A s s.heap) (hD : va_D A ws) (hS : va_S A s.heap H locs) (hA : ∀ q : Nat, s.heap.size ≤ q → A q) (hP : va_P (gD G) vwCl ws H) (hls : ls.size = nL)
    (kk : ∀ (H : Heap) (locs : List Loc), va_P (gD G) vwCl wf H → va_D A wf → va_S A s.heap H locs → W p l e R s m args below meth c H locs cells slots Q (F0 m (pc + 3) ls (ov.toList ++ rest))) : W p l e R s m args below meth c H locs cells slots Q (F0 m pc ls st0) := by
  obtain ⟨w', hw⟩ := hw
  exact wr_run isC isR isF (va_runS (g := F0 m pc ls st0) ⟨hx, hb, hml, hown, hts⟩ (hM H.size) (va_cwS n hts hg hw rfl rfl hd hRm) ⟨wr_blind, wr_pre (B := A) isC hC hnd.1 hB hD hS hA hP⟩ rfl hn hls hst (lv_room hW) hdg hf) rfl hC hR hnd.2.1 hnd.2.2.2 hnd.2.2.1 hF hD hS hA hP kk
/-- the same, of a nest mate's private method -/
theorem wr_SN (hM : WR l y wy ky G wc wc' As ov) (isC isR isF : List Nat) (hC : isC.map (fun i => ws[i]?) = wc.map some) (hR : isR.map (fun i => ws[i]?) = wr.map some) (hF : isF.map (fun i => (wr ++ wc')[i]?) = wf.map some) (hnd : va_nd isC = true ∧ va_nd isR = true ∧ va_nd isF = true ∧ ∀ i ∈ isR, i ∉ isC) (hg : GoodIn Ts wy) (hw : ∃ w', wy = Cond.code y bytes maxL ret :: w') (hd : y.cls ≠ "java/lang/invoke/MethodHandle" ∧ y.cls ≠ "java/lang/invoke/VarHandle" ∧ (parseMethodDescriptor y.desc).map (fun d => d.parameters.length) = some n) (kN : Nat) (hN : bgN[kN]? = some (own, idx, y)) (hini : Cond.initialized y.cls ∈ Ts) (hsta : Cond.static y ∈ Ts) (hdg : decode cc pc = .ok (.invokestatic idx, 3))
    (hn : As.length = n) (hst : st0 = As.reverse ++ rest) (hW : (rest.map fun v => v.category).sum ≤ 8) (hRm : ky + 1 ≤ R.frames ∧ 8 + (maxL + 11) + 40 * ky ≤ R.locals) (hf : cells ≤ R.cells ∧ slots ≤ R.slots)
    (hx : p.tables.exec = Jvm.exec) (hb : c.code = cc) (hml : c.maxLocals = nL) (hown : s.vm.findClass own = some m.cls) (hts : ∀ w ∈ Ts, w.before args s = true) (hB : BG G A s s.heap) (hD : va_D A ws) (hS : va_S A s.heap H locs) (hA : ∀ q : Nat, s.heap.size ≤ q → A q) (hP : va_P (gD G) vwCl ws H) (hls : ls.size = nL)
    (kk : ∀ (H : Heap) (locs : List Loc), va_P (gD G) vwCl wf H → va_D A wf → va_S A s.heap H locs → W p l e R s m args below meth c H locs cells slots Q (F0 m (pc + 3) ls (ov.toList ++ rest))) : W p l e R s m args below meth c H locs cells slots Q (F0 m pc ls st0) := by
  obtain ⟨w', hw⟩ := hw
  exact wr_run isC isR isF (va_runSN (g := F0 m pc ls st0) ⟨hx, hb, hml, hown, hts⟩ (hM H.size) ⟨va_cnB n hts hg hw rfl rfl (hB.2.1 kN _ hN) (hts _ hini) hd hRm, hts _ hsta, trivial⟩ ⟨wr_blind, wr_pre (B := A) isC hC hnd.1 hB hD hS hA hP⟩ rfl hn hls hst (lv_room hW) hdg hf) rfl hC hR hnd.2.1 hnd.2.2.2 hnd.2.2.1 hF hD hS hA hP kk
/-- a writer is called: an instance's method -/
theorem wr_V (hM : WR l y wy ky G wc wc' (.ref b :: As) ov) (isC isR isF : List Nat) (hC : isC.map (fun i => ws[i]?) = wc.map some) (hR : isR.map (fun i => ws[i]?) = wr.map some) (hF : isF.map (fun i => (wr ++ wc')[i]?) = wf.map some) (hnd : va_nd isC = true ∧ va_nd isR = true ∧ va_nd isF = true ∧ ∀ i ∈ isR, i ∉ isC) (he : ws[q0]? = some (b, .inr (ci, fs))) (hc : vwCl[ci]? = some cq) (hcC : cq.1 = C) (hg : GoodIn Ts (wsV own idx C y wy)) (hw : ∃ w', wy = Cond.code y bytes maxL ret :: w') (hd : y.cls ≠ "java/lang/invoke/MethodHandle" ∧ y.cls ≠ "java/lang/invoke/VarHandle" ∧ (parseMethodDescriptor y.desc).map (fun d => d.parameters.length) = some n) (hyC : y.cls = C) (hdg : decode cc pc = .ok (.invokevirtual idx, 3))
    (hn : As.length = n) (hst : st0 = As.reverse ++ .ref b :: rest) (hW : (rest.map fun v => v.category).sum ≤ 8) (hRm : ky + 1 ≤ R.frames ∧ 8 + (maxL + 11) + 40 * ky ≤ R.locals) (hf : cells ≤ R.cells ∧ slots ≤ R.slots)
    (hx : p.tables.exec = Jvm.exec) (hb : c.code = cc) (hml : c.maxLocals = nL) (hown : s.vm.findClass own = some m.cls) (hts : ∀ w ∈ Ts, w.before args s = true) (hB : BG G A s s.heap) (hD : va_D A ws) (hS : va_S A s.heap H locs) (hA : ∀ q : Nat, s.heap.size ≤ q → A q) (hP : va_P (gD G) vwCl ws H) (hls : ls.size = nL)
    (kk : ∀ (H : Heap) (locs : List Loc), va_P (gD G) vwCl wf H → va_D A wf → va_S A s.heap H locs → W p l e R s m args below meth c H locs cells slots Q (F0 m (pc + 3) ls (ov.toList ++ rest))) : W p l e R s m args below meth c H locs cells slots Q (F0 m pc ls st0) := by
  obtain ⟨w', hw⟩ := hw
  subst hcC
  exact wr_run isC isR isF (va_runV (g := F0 m pc ls st0) ⟨hx, hb, hml, hown, hts⟩ (hM H.size) (cwV n hts hg hw rfl rfl ⟨hyC, hd⟩ hRm) ⟨wr_blind, va_recv hB.1 hP hc he, wr_pre (B := A) (As := .ref b :: As) isC hC hnd.1 hB hD hS hA hP⟩ rfl hn hls hst (lv_room hW) hdg hf) rfl hC hR hnd.2.1 hnd.2.2.2 hnd.2.2.1 hF hD hS hA hP kk
end CALLS
