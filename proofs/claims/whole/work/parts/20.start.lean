/-! THE LAW'S ENTRY -/
def R_law : String := "WingHouseLaw"
def lw_Q (_ : Array Value) (s : State) (o : Outcome) (t : State) : Prop := o = .returned (some (.int 1)) ∧ Framed s o t [] 600000 7302250
def lw_Z (below : List Frame) (a : Array Value) (s : State) : State → Prop := fun t => ∃ o, t.status = .running ∧ Ended t below o ∧ lw_Q a s o t
/-- the law's own end, with 1 on the stack, nothing written that was there before, its room as the claim has it -/
theorem lw_ret {p : Program} {l : Launch} {e : Env} {s : State} {m : MethodId} {below : List Frame} {meth : Method} {c : Code} {b : Nat} (hx : p.tables.exec = Jvm.exec) (hb : c.code = code) (hr : meth.sig.returnType = ret) (hlocks : meth.locks = false) {pc : Nat} {H : Heap} {ls : Array Slot} (hdg : decode code pc = .ok (.ireturn, 1)) : W p l e room_1 s m #[Value.ref b] below meth c H [] 600000 7302250 (lw_Z below #[Value.ref b] s) (F0 m pc ls [.int 1]) := by
  intro T hT X
  obtain ⟨fs, hret, hrun, hended, hW, hframe⟩ := X.leave (v := some (.int 1)) (hlocks := hlocks) (fun h => by rw [hr] at h; cases h)
  have hmeth' : T.vm.method? m = some meth := X.method'
  refine ⟨T.setFrames fs, ?_, .returned (some (.int 1)), hrun, hended, rfl, ⟨_, rfl⟩, hW, hframe⟩
  jvm_step X.here [X.here.top, hx, hb, hdg, hmeth', hr, ret, narrow_b1]
  (try refine ⟨rfl, ?_⟩); (try refine ⟨rfl, ?_⟩)
  first | (intro acts; rw [hret _ acts rfl rfl rfl]) | rw [hret _ _ rfl rfl rfl]
  exact Steps.refl _
/-- what holds at the law's entry -/
def lw_At (p : Program) (s : State) (m : MethodId) (meth : Method) (c : Code) (b L : Nat) (xs : Nat → Int32) : Prop :=
  p.tables.exec = Jvm.exec ∧ c.code = code ∧ meth.sig.returnType = ret ∧ c.maxLocals = 4 ∧ s.vm.findClass R_law = some m.cls ∧ (∀ w ∈ lw_tbl, w.before #[Value.ref b] s = true) ∧ va_X b L xs s s.heap ∧ b < s.heap.size ∧ meth.locks = false ∧ (Jvm.Cond.and given_1 narrow_1).before #[Value.ref b] s = true ∧ meth.name = "law"
theorem st_words {s : State} {b : Nat} (hts : ∀ w ∈ lw_tbl, w.before #[Value.ref b] s = true) : (∀ w ∈ gw, ∀ a, w.before a s = true) ∧ ∀ w ∈ nw, va_Nw w s := by
  refine ⟨fun w hw a => word_vm (gw_good hw) (u := s) rfl (hts w (List.mem_filter.mp hw).1), fun w hw => ?_⟩
  have h1 := hts w (List.mem_append_right _ (List.mem_filter.mp hw).1)
  have hn := nw_nest hw
  cases w <;> first | (exact va_Nw.of rfl h1) | (cases hn)
theorem st_cls {s : State} (hg : ∀ w ∈ gw, ∀ a, w.before a s = true) : ∃ D : va_G, va_K D cl [] s := by
  have h : ∀ c : Nat, ∃ q : ClassId × (Nat → Nat), ∀ r, cl[c]? = some r → u_Kn s r.1 r.2.1 r.2.2 q.1 q.2 := by
    intro c
    by_cases hc : c < 13
    · have hi : Cond.instantiable (clR c) (clN c) ∈ gw := by
        refine zz_in zz_NS zz_NSg (List.mem_map.mpr ⟨c, ?_, rfl⟩)
        exact List.mem_of_elem_eq_true (List.all_eq_true.mp (show (List.range 13).all (fun k => NS.elem k) = true by decide +kernel) c (List.mem_range.mpr hc))
      obtain ⟨cC, iS, hk⟩ := u_known (args := #[]) (fun w hw => hg w hw #[]) (zz_clin c hc) (hg _ hi #[])
      refine ⟨(cC, iS), fun r hr => ?_⟩
      rw [zz_cl c hc] at hr
      cases hr
      exact hk
    · refine ⟨(0, fun _ => 0), fun r hr => ?_⟩
      have := (List.getElem?_eq_some_iff.mp hr).1
      exact absurd this (by show ¬ c < 13; exact hc)
  refine ⟨(fun c => (Classical.choose (h c)).1, fun c => (Classical.choose (h c)).2), fun c r hr => Classical.choose_spec (h c) r hr, fun k q hq => by simp at hq⟩
theorem zz_over : [Cond.arrayOver (.object (clR 3)), Cond.arrayOver (.object (clR 7)), Cond.arrayOver (.object (clR 10)), Cond.laysStatic "java/lang/String" "COMPACT_STRINGS" "Z", Cond.laysStatic "jdk/internal/util/Preconditions" "SIOOBE_FORMATTER" "Ljava/util/function/BiFunction;", Cond.laysStatic "WingHouse$Solver" "SHARES" "[I", Cond.initialized "java/lang/String", Cond.initialized "jdk/internal/util/Preconditions", Cond.initialized "WingHouse$Solver", Cond.stringRef "WingHouse$Tokens" 11 "law  drag hingewing bar  deep stiffsweepmass if   on   or   and  not  slantlift widthtwistat   speedbend down "].all (fun w => decide (w ∈ tables_1)) = true := by decide +kernel
theorem over_in {w : Cond} (h : w ∈ [Cond.arrayOver (.object (clR 3)), Cond.arrayOver (.object (clR 7)), Cond.arrayOver (.object (clR 10)), Cond.laysStatic "java/lang/String" "COMPACT_STRINGS" "Z", Cond.laysStatic "jdk/internal/util/Preconditions" "SIOOBE_FORMATTER" "Ljava/util/function/BiFunction;", Cond.laysStatic "WingHouse$Solver" "SHARES" "[I", Cond.initialized "java/lang/String", Cond.initialized "jdk/internal/util/Preconditions", Cond.initialized "WingHouse$Solver", Cond.stringRef "WingHouse$Tokens" 11 "law  drag hingewing bar  deep stiffsweepmass if   on   or   and  not  slantlift widthtwistat   speedbend down "]) : w ∈ lw_tbl := by
  have h1 := List.all_eq_true.mp zz_over w h
  exact List.mem_append_right _ (of_decide_eq_true h1)
theorem st_tags {s : State} {b : Nat} (hts : ∀ w ∈ lw_tbl, w.before #[Value.ref b] s = true) (hg : ∀ w ∈ gw, ∀ a, w.before a s = true) : ∃ T : Nat → ClassId, ∀ t ∈ tagL, ArrOfT s (T t) (tagT t) ∧ va_RA s (T t) (tagT t) ∧ (10 ≤ t → va_AO (clR (t - 10)) s) := by
  have prim : ∀ ty : FieldType, Cond.arrayClass ty ∈ gw → (∀ C, ty ≠ .object C) → ∃ cA : ClassId, ArrOfT s cA ty ∧ va_RA s cA ty := by
    intro ty hw hno
    obtain ⟨cA, kA, comp, h1, h2, h3⟩ := Cond.arrayClass_spec (hg _ hw #[])
    refine ⟨cA, fun n z => ⟨fun k h => (by cases h), kA, h2, comp, h3⟩, ?_⟩
    cases ty <;> first | exact h1 | exact absurd rfl (hno _)
  have obj : ∀ ci, Cond.arrayOver (.object (clR ci)) ∈ lw_tbl → ∃ cA : ClassId, ArrOfT s cA (.object (clR ci)) ∧ va_RA s cA (.object (clR ci)) ∧ va_AO (clR ci) s := by
    intro ci hw
    obtain ⟨comp, cA, kA, h1, h2, h3, h4, h5⟩ := Cond.arrayOver_spec (hts _ hw)
    exact ⟨cA, fun n z => ⟨fun k h => (by cases h), kA, h3, comp, h4⟩, ⟨kA, comp, h3, h4, h1, h5⟩, va_AO.of (hts _ hw)⟩
  obtain ⟨c0, a0, b0⟩ := prim .int (sys_in (by simp)) (fun C h => by cases h)
  obtain ⟨c1, a1, b1⟩ := prim .byte (sys_in (by simp)) (fun C h => by cases h)
  obtain ⟨c2, a2, b2⟩ := prim .boolean (sys_in (by simp)) (fun C h => by cases h)
  obtain ⟨c3, a3, b3⟩ := prim .long (sys_in (by simp)) (fun C h => by cases h)
  obtain ⟨c4, a4, b4, d4⟩ := obj 3 (over_in (by simp))
  obtain ⟨c5, a5, b5, d5⟩ := obj 7 (over_in (by simp))
  obtain ⟨c6, a6, b6, d6⟩ := obj 10 (over_in (by simp))
  refine ⟨fun t => if t = 0 then c0 else if t = 1 then c1 else if t = 2 then c2 else if t = 3 then c3 else if t = 13 then c4 else if t = 17 then c5 else c6, fun t ht => ?_⟩
  simp only [tagL, List.mem_cons, List.not_mem_nil, or_false] at ht
  rcases ht with rfl | rfl | rfl | rfl | rfl | rfl | rfl
  · exact ⟨a0, b0, fun h => absurd h (by decide)⟩
  · exact ⟨a1, b1, fun h => absurd h (by decide)⟩
  · exact ⟨a2, b2, fun h => absurd h (by decide)⟩
  · exact ⟨a3, b3, fun h => absurd h (by decide)⟩
  · exact ⟨a4, b4, fun _ => d4⟩
  · exact ⟨a5, b5, fun _ => d5⟩
  · exact ⟨a6, b6, fun _ => d6⟩
