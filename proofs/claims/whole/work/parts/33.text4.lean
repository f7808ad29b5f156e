/-! THE TEXT'S OWN METHODS, II: with what lies below the memory of the small machine -/
def StrP (Ω : Om) (as : List Value) : Array Value → State → Prop := fun a U => a = as.toArray ∧ AmbT Ω U ∧ (∀ q, q < oB Ω → U.heap[q]? = (oH Ω)[q]?) ∧ oB Ω ≤ U.heap.size
def StrQ (r : Option Value) : Array Value → State → Outcome → State → Prop := fun _ st oc t => oc = .returned r ∧ t.heap = st.heap
def StrM (Ω : Om) (j : Nat) (as : List Value) (r : Option Value) : Prop := Met (oL Ω) (mt j).1 [cdW j] (rmM j) (StrP Ω as) (StrQ r) (mCe j) (mSl j) (oA Ω)
theorem StrP.blind {Ω : Om} {as : List Value} : FrameBlind (StrP Ω as) := fun a U g mk h => ⟨h.1, AmbT.same (u := U) (U := U.calling g mk a) rfl h.2.1, h.2.2⟩
theorem str_hand {Ω : Om} {j : Nat} {as : List Value} {r : Option Value} (hj : j ∈ JL) (hz : (lg_sl as).length ≤ mL j) (hT : match r with | none => mT j = none | some (.int x) => ∃ ty, mT j = some ty ∧ narrow ty (.int x) = .int x | _ => False)
    (h : ∀ (p : Program) (e : Env) (s : State) (m : MethodId) (args : Array Value) (below : List Frame) (meth : Method) (cf : Code) (Q : State → Prop) (ls : Array Slot), Cx Ω j p s m meth cf → lv_has ls (mL j) (lv_args 0 as) → (∀ (pc : Nat) (ins : Instr) (locs : List Loc) (c n : Nat), va_S (oA Ω) s.heap s.heap locs → c ≤ mCe j → n ≤ mSl j → decode (mB j) pc = .ok (ins, 1) → ins = (match r with | none => Instr.return_ | some _ => Instr.ireturn) → W p (oL Ω) e (rmM j) s m args below meth cf s.heap locs c n Q (F0 m pc ls r.toList)) → W p (oL Ω) e (rmM j) s m args below meth cf s.heap [] 0 0 Q (F0 m 0 ls [])) : StrM Ω j as r := by
  obtain ⟨-, -, -, hpl, -, -, hcls⟩ := mOK_facts hj
  refine Met.ofW (cc := mB j) (maxL := mL j) (ret := mT j) hpl rfl ?_
  intro p e s m args below meth cf s₁ B hml hv
  obtain ⟨rfl, hA, hlow, hbs⟩ := hv
  have hown : s.vm.findClass (ownR (mOw j)) = some m.cls := by rw [← hcls]; exact findClass_of_methodNamed B.named
  have hcx : Cx Ω j p s m meth cf := ⟨B.exec, B.bytes, hml, hown, hA, (name_of_methodNamed B.named B.method).1, hlow, hbs⟩
  have hl := lv_entry as (n := mL j) hz
  have hr := B.returns
  have hlocks := B.notSynchronized
  rw [lg_entry_eq]
  refine h p e s m _ below meth cf _ _ hcx hl (fun pc ins locs c n hS hc hn hd hi => ?_)
  refine W.widen hc hn ?_
  cases r with
  | none =>
    subst hi
    exact W.vret B.exec B.bytes (by rw [hr, hT]) (fun t ht hW => ⟨rfl, ht⟩) hS.2.2 hd hlocks
  | some v =>
    cases v with
    | int x =>
      obtain ⟨ty, h1, h2⟩ := hT
      subst hi
      exact W.zret B.exec B.bytes (by rw [hr, h1]) h2 (fun t ht hW => ⟨rfl, ht⟩) hS.2.2 hd hlocks
    | _ => exact hT.elim
