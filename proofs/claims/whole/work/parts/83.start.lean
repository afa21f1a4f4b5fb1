/-! START: what holds at the law's entry gives the background; the two objects made; the loop -/
theorem lt_off {l : Launch} (h : l.flags = flags0) : l.stackTraces = false := by
  unfold Launch.stackTraces; rw [h]; decide +kernel
def gvW (q : String × String × List Int32) : List Cond := Cond.arrayOf (.static q.1 q.2.1 "[I") .int :: Cond.eq (.length (.static q.1 q.2.1 "[I")) (.int (Int32.ofNat q.2.2.length)) :: (List.range q.2.2.length).map (fun j => Cond.eq (.elem (.static q.1 q.2.1 "[I") (.int (Int32.ofNat j))) (.int (q.2.2.getD j 0)))
def gvS : List Cond := bgS.flatMap gvW
theorem start_st {args : Array Value} {s : State} {A : Nat → Prop} (hs : ∀ w ∈ gvS, w.before args s = true) (ht : ∀ q ∈ bgS, (Cond.laysStatic q.1 q.2.1 "[I").before args s = true ∧ (Cond.initialized q.1).before args s = true) (hA : ∀ a : Nat, a < s.heap.size → ¬ A a) :
    ∃ g : Nat → Nat, ∀ (i : Nat) (q : String × String × List Int32), bgS[i]? = some q → va_Z q.1 q.2.1 "[I" (.ref (g i)) A s s.heap ∧ va_T .int (g i) q.2.2.length (fun j => .int (q.2.2.getD j 0)) A s s.heap := by
  have hlen : ∀ q ∈ bgS, q.2.2.length < 2 ^ 31 := by decide +kernel
  have h : ∀ i : Nat, ∃ t : Nat, ∀ q : String × String × List Int32, bgS[i]? = some q → va_Z q.1 q.2.1 "[I" (.ref t) A s s.heap ∧ va_T .int t q.2.2.length (fun j => .int (q.2.2.getD j 0)) A s s.heap := by
    intro i
    cases hq : bgS[i]? with
    | none => exact ⟨0, fun q h => by cases h⟩
    | some q =>
      have hm : q ∈ bgS := List.mem_of_getElem? hq
      have hw : ∀ w ∈ gvW q, w.before args s = true := fun w hw => hs w (List.mem_flatMap.mpr ⟨q, hm, hw⟩)
      obtain ⟨t, h1, hT⟩ := va_Tof (N := q.2.2.length) (f := fun j => .int (q.2.2.getD j 0)) (A := A) (hlen q hm) (hw _ (List.mem_cons_self)) (va_eqt (hw _ (List.mem_cons_of_mem _ List.mem_cons_self)))
        (fun j hj => va_eqt (hw _ (List.mem_cons_of_mem _ (List.mem_cons_of_mem _ (List.mem_map.mpr ⟨j, List.mem_range.mpr hj, rfl⟩))))) hA
      exact ⟨t, fun q' h => by cases h; exact ⟨va_Zref (ht q hm).1 (ht q hm).2 h1 hA, hT⟩⟩
  obtain ⟨f, hf⟩ := Classical.axiomOfChoice h
  exact ⟨f, hf⟩
def stT (i : Nat) : Term := .string (bgR.getD i ("", 0, "")).1 (bgR.getD i ("", 0, "")).2.1
def gvB (i : Nat) : List Cond := Cond.exactly (stT i) "java/lang/String" :: Cond.eq (.field (stT i) "java/lang/String" "coder" "B") (.int 0) :: Cond.arrayOf (.field (stT i) "java/lang/String" "value" "[B") .byte :: Cond.eq (.length (.field (stT i) "java/lang/String" "value" "[B")) (.int (Int32.ofNat (bgL.getD i 0))) :: (List.range (bgL.getD i 0)).map (fun j => Cond.eq (.elem (.field (stT i) "java/lang/String" "value" "[B") (.int (Int32.ofNat j))) (.int ((bgY.getD i []).getD j 0)))
def gvK : List Cond := (List.range 7).flatMap gvB
def gvN : List Cond := (List.range 7).flatMap (fun i => (List.range i).map (fun j => Cond.not (Cond.eq (stT j) (stT i))))
theorem start_ss {args : Array Value} {s : State} {A : Nat → Prop} (hs : ∀ w ∈ gvK, w.before args s = true) (hn : ∀ w ∈ gvN, w.before args s = true) (hA : ∀ a : Nat, a < s.heap.size → ¬ A a) :
    ∃ adK adV : Nat → Nat, vk_S 7 bgL bgY adK adV A s s.heap ∧ ∀ i : Nat, i < 7 → (stT i).eval args s none [] s = some (.ref (adK i)) := by
  have hlen : ∀ i ∈ List.range 7, bgL.getD i 0 < 2 ^ 31 := by decide +kernel
  have hw : ∀ i : Nat, i < 7 → ∀ w ∈ gvB i, w.before args s = true := fun i hi w hw => hs w (List.mem_flatMap.mpr ⟨i, List.mem_range.mpr hi, hw⟩)
  refine vk_Sof (tm := stT) (fun i hi => hlen i (List.mem_range.mpr hi)) (fun i hi => hw i hi _ List.mem_cons_self) (fun i hi => hw i hi _ (List.mem_cons_of_mem _ List.mem_cons_self)) (fun i hi => hw i hi _ (List.mem_cons_of_mem _ (List.mem_cons_of_mem _ List.mem_cons_self)))
    (fun i hi => hw i hi _ (List.mem_cons_of_mem _ (List.mem_cons_of_mem _ (List.mem_cons_of_mem _ List.mem_cons_self)))) (fun i hi j hj => hw i hi _ (List.mem_cons_of_mem _ (List.mem_cons_of_mem _ (List.mem_cons_of_mem _ (List.mem_cons_of_mem _ (List.mem_map.mpr ⟨j, List.mem_range.mpr hj, rfl⟩)))))) (fun i j hi hj hij => ?_) hA
  rcases Nat.lt_or_gt_of_ne hij with h | h
  · exact Or.inl (hn _ (List.mem_flatMap.mpr ⟨j, List.mem_range.mpr hj, List.mem_map.mpr ⟨i, List.mem_range.mpr h, rfl⟩⟩))
  · exact Or.inr (hn _ (List.mem_flatMap.mpr ⟨i, List.mem_range.mpr hi, List.mem_map.mpr ⟨j, List.mem_range.mpr h, rfl⟩⟩))
theorem start_ar {args : Array Value} {s : State} {ty : FieldType} (hty : ∀ C, ty ≠ .object C) (h : (Cond.arrayClass ty).before args s = true) : ∃ cA : ClassId, ArrOfT s cA ty ∧ va_RA s cA ty := by
  obtain ⟨cA, k, comp, h1, h2, h3⟩ := Cond.arrayClass_spec h
  refine ⟨cA, fun n z => ⟨fun k h => (by cases h), k, h2, comp, h3⟩, ?_⟩
  cases ty <;> first | exact h1 | exact absurd rfl (hty _)
set_option maxRecDepth 100000 in
theorem start_bg {p : Program} {s : State} {m : MethodId} {meth : Method} {c : Code} {b L : Nat} {xs : Nat → Int32} (C0 : lw_At p s m meth c b L xs) : ∃ G : BGT, BG G (fun q : Nat => s.heap.size ≤ q) s s.heap := by
  obtain ⟨hx, hb, hr, hml, hown, hts, hX, hbl, hlocks, hgv⟩ := C0
  have hA : ∀ a : Nat, a < s.heap.size → ¬ (fun q : Nat => s.heap.size ≤ q) a := fun a h => Nat.not_le.mpr h
  have hs := flat_of_before _ hgv
  obtain ⟨c0, i0, k0⟩ := u_known (C := RX0) (T := TX0) (N := 10) (n := 10) hts (by decide +kernel) (hts _ (by decide +kernel))
  obtain ⟨c1, i1, k1⟩ := u_known (C := RX1) (T := TX1) (N := 4) (n := 4) hts (by decide +kernel) (hts _ (by decide +kernel))
  obtain ⟨c2, i2, k2⟩ := u_known (C := RX2) (T := TX2) (N := 4) (n := 4) hts (by decide +kernel) (hts _ (by decide +kernel))
  obtain ⟨c3, i3, k3⟩ := u_known (C := RX3) (T := TX3) (N := 8) (n := 8) hts (by decide +kernel) (hts _ (by decide +kernel))
  obtain ⟨c4, i4, k4⟩ := u_known (C := RX4) (T := TX4) (N := 8) (n := 8) hts (by decide +kernel) (hts _ (by decide +kernel))
  obtain ⟨c5, i5, k5⟩ := u_known (C := RX5) (T := TX5) (N := 2) (n := 2) hts (by decide +kernel) (hts _ (by decide +kernel))
  obtain ⟨c6, i6, k6⟩ := u_known (C := RX6) (T := TX6) (N := 8) (n := 8) hts (by decide +kernel) (hts _ (by decide +kernel))
  obtain ⟨c7, i7, k7⟩ := u_known (C := RX7) (T := TX7) (N := 22) (n := 22) hts (by decide +kernel) (hts _ (by decide +kernel))
  obtain ⟨cB, aB1⟩ := start_ar (ty := .byte) (fun _ h => by cases h) (hts (.arrayClass .byte) (by decide +kernel))
  obtain ⟨cI, aI1⟩ := start_ar (ty := .int) (fun _ h => by cases h) (hts (.arrayClass .int) (by decide +kernel))
  obtain ⟨cJ, aJ1⟩ := start_ar (ty := .long) (fun _ h => by cases h) (hts (.arrayClass .long) (by decide +kernel))
  have w1 : ∀ q ∈ bgN, Cond.methodLinkNest q.1 q.2.1 q.2.2 RX6 ∈ lw_tbl := by decide +kernel
  have w2 : ∀ q ∈ bgS, Cond.laysStatic q.1 q.2.1 "[I" ∈ lw_tbl := by decide +kernel
  have w3 : ∀ q ∈ bgS, Cond.initialized q.1 ∈ lw_tbl := by decide +kernel
  have w4 : ∀ q ∈ bgR, Cond.stringRef q.1 q.2.1 q.2.2 ∈ lw_tbl := by decide +kernel
  have v1 : ∀ w ∈ gvS, w.before #[Value.ref b] s = true := fun w hw => hs w ((show ∀ w ∈ gvS, w ∈ _ by decide +kernel) w hw)
  have v2 : ∀ w ∈ gvK, w.before #[Value.ref b] s = true := fun w hw => hs w ((show ∀ w ∈ gvK, w ∈ _ by decide +kernel) w hw)
  have v3 : ∀ w ∈ gvN, w.before #[Value.ref b] s = true := fun w hw => hs w ((show ∀ w ∈ gvN, w ∈ _ by decide +kernel) w hw)
  obtain ⟨gs, hgs⟩ := start_st (A := fun q : Nat => s.heap.size ≤ q) v1 (fun q hq => ⟨hts _ (w2 q hq), hts _ (w3 q hq)⟩) hA
  obtain ⟨gk, gv, hgk, hge⟩ := start_ss (A := fun q : Nat => s.heap.size ≤ q) v2 v3 hA
  refine ⟨((fun k => match k with | 0 => c0 | 1 => c1 | 2 => c2 | 3 => c3 | 4 => c4 | 5 => c5 | 6 => c6 | _ => c7, fun k => match k with | 0 => i0 | 1 => i1 | 2 => i2 | 3 => i3 | 4 => i4 | 5 => i5 | 6 => i6 | _ => i7), (cB, cI, cJ), gs, gk, gv), ⟨?_, ?_⟩, ?_, hgs, ?_, hgk, ?_, ?_⟩
  · intro k q hq
    rcases k with _ | _ | _ | _ | _ | _ | _ | _ | k
    · cases hq; exact k0
    · cases hq; exact k1
    · cases hq; exact k2
    · cases hq; exact k3
    · cases hq; exact k4
    · cases hq; exact k5
    · cases hq; exact k6
    · cases hq; exact k7
    · cases hq
  · intro k q hq
    rcases k with _ | _ | _ | k
    · cases hq; exact aB1
    · cases hq; exact aI1
    · cases hq; exact aJ1
    · cases hq
  · intro i q hq
    exact va_Nw.of rfl (hts _ (w1 q (List.mem_of_getElem? hq)))
  · intro i q hq
    have hi : i < 7 := (List.getElem?_eq_some_iff.mp hq).1
    have he := hge i hi
    have hd : bgR.getD i ("", 0, "") = q := by rw [List.getD_eq_getElem?_getD, hq]; rfl
    rw [stT, hd] at he
    exact vk_R.of (hts _ (w4 q (List.mem_of_getElem? hq))) he
  · exact va_Zof (hts _ (by decide +kernel)) (hts _ (by decide +kernel)) (va_eqt (hs _ (by decide +kernel))) hA
  · exact va_Zqof (hts _ (by decide +kernel)) (hts _ (by decide +kernel)) (hs _ (by decide +kernel)) hA
set_option maxRecDepth 100000 in
theorem start_bx {p : Program} {s : State} {m : MethodId} {meth : Method} {c : Code} {b L : Nat} {xs : Nat → Int32} (C0 : lw_At p s m meth c b L xs) : BX (fun q : Nat => s.heap.size ≤ q) s s.heap := by
  obtain ⟨hx, hb, hr, hml, hown, hts, hX, hbl, hlocks, hgv⟩ := C0
  have hA : ∀ a : Nat, a < s.heap.size → ¬ (fun q : Nat => s.heap.size ≤ q) a := fun a h => Nat.not_le.mpr h
  have hs := flat_of_before _ hgv
  refine ⟨fun w hw => ?_, va_Nw.of rfl (hts _ (by decide +kernel)), vx_Zqof (hts _ (by decide +kernel)) (hts _ (by decide +kernel)) (hs _ (by decide +kernel)) hA, vx_Zqof (hts _ (by decide +kernel)) (hts _ (by decide +kernel)) (hs _ (by decide +kernel)) hA⟩
  rcases ng_is hw with ⟨C, T, rfl⟩ | ⟨y, rfl⟩
  · exact va_Nw.of rfl (hts _ (ng_tbl _ hw))
  · exact va_Nw.of rfl (hts _ (ng_tbl _ hw))
