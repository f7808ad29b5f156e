/-! HOW CONTRACTS ARE PROVED AND USED -/
theorem hJL {j : Nat} (h : JL.elem j = true) : j ∈ JL := List.mem_of_elem_eq_true h
/-- a call whose answer and memory are known -/
theorem cl_use {Ω : Om} {md : Bool} {j : Nat} {as : List Vl} {M M1 : Mem} {r : Option Vl} {X : Prop} {N : Option Vl → Mem → Prop} (h : ∀ K : Ka, K r M1 → CallS Ω md j as M K) (hx : X) (hn : N r M1) : ∃ K0 : Ka, CallS Ω md j as M K0 ∧ X ∧ ∀ v M', K0 v M' → N v M' :=
  ⟨fun v M' => v = r ∧ M' = M1, h _ ⟨rfl, rfl⟩, hx, fun v M' q => by obtain ⟨rfl, rfl⟩ := q; exact hn⟩
/-- a call of whose answer and memory something is known -/
theorem cl_rel {Ω : Om} {md : Bool} {j : Nat} {as : List Vl} {M : Mem} {P : Ka} {X : Prop} {N : Option Vl → Mem → Prop} (h : ∀ K : Ka, (∀ r M1, P r M1 → K r M1) → CallS Ω md j as M K) (hx : X) (hn : ∀ r M1, P r M1 → N r M1) : ∃ K0 : Ka, CallS Ω md j as M K0 ∧ X ∧ ∀ v M', K0 v M' → N v M' :=
  ⟨P, h _ (fun _ _ q => q), hx, hn⟩
theorem mI_sI (M : Mem) (k i s : Nat) (x : Int32) (k' i' s' : Nat) : mI (sI M k i s x) k' i' s' = if k' = k ∧ i' = i ∧ s' = s then x else mI M k' i' s' := rfl
theorem mJ_sI (M : Mem) (k i s : Nat) (x : Int32) (k' i' s' : Nat) : mJ (sI M k i s x) k' i' s' = mJ M k' i' s' := rfl
theorem mR_sI (M : Mem) (k i s : Nat) (x : Int32) (k' i' s' : Nat) : mR (sI M k i s x) k' i' s' = mR M k' i' s' := rfl
theorem mC_sI (M : Mem) (k i s : Nat) (x : Int32) (k' : Nat) : mC (sI M k i s x) k' = mC M k' := rfl
theorem mI_sJ (M : Mem) (k i s : Nat) (x : Int64) (k' i' s' : Nat) : mI (sJ M k i s x) k' i' s' = mI M k' i' s' := rfl
theorem mJ_sJ (M : Mem) (k i s : Nat) (x : Int64) (k' i' s' : Nat) : mJ (sJ M k i s x) k' i' s' = if k' = k ∧ i' = i ∧ s' = s then x else mJ M k' i' s' := rfl
theorem mR_sJ (M : Mem) (k i s : Nat) (x : Int64) (k' i' s' : Nat) : mR (sJ M k i s x) k' i' s' = mR M k' i' s' := rfl
theorem mC_sJ (M : Mem) (k i s : Nat) (x : Int64) (k' : Nat) : mC (sJ M k i s x) k' = mC M k' := rfl
theorem mI_sR (M : Mem) (k i s : Nat) (x : Rf) (k' i' s' : Nat) : mI (sR M k i s x) k' i' s' = mI M k' i' s' := rfl
theorem mJ_sR (M : Mem) (k i s : Nat) (x : Rf) (k' i' s' : Nat) : mJ (sR M k i s x) k' i' s' = mJ M k' i' s' := rfl
theorem mR_sR (M : Mem) (k i s : Nat) (x : Rf) (k' i' s' : Nat) : mR (sR M k i s x) k' i' s' = if k' = k ∧ i' = i ∧ s' = s then x else mR M k' i' s' := rfl
theorem mC_sR (M : Mem) (k i s : Nat) (x : Rf) (k' : Nat) : mC (sR M k i s x) k' = mC M k' := rfl
theorem mI_sNew (M : Mem) (k k' i' s' : Nat) : mI (sNew M k) k' i' s' = if k' = k ∧ i' = mC M k then 0 else mI M k' i' s' := rfl
theorem mJ_sNew (M : Mem) (k k' i' s' : Nat) : mJ (sNew M k) k' i' s' = if k' = k ∧ i' = mC M k then 0 else mJ M k' i' s' := rfl
theorem mR_sNew (M : Mem) (k k' i' s' : Nat) : mR (sNew M k) k' i' s' = if k' = k ∧ i' = mC M k then none else mR M k' i' s' := rfl
theorem mC_sNew (M : Mem) (k k' : Nat) : mC (sNew M k) k' = if k' = k then mC M k + 1 else mC M k' := rfl
theorem c_WH_back (Ω : Om) (M : Mem) (n : Int32) (K : Ka) (h1 : n < 0 ∨ mI M 11 0 1 < n → K (some (vI (-1))) M) (h2 : ¬ n < 0 → n ≤ mI M 11 0 1 → K (some (vI (mI M 11 0 1 - n))) (sI M 11 0 1 (mI M 11 0 1 - n))) : CallS Ω true m_WH_back [vR (some (11,0)), vI n] M K := by
  refine call_go (hJL rfl) (Nat.le_of_ble_eq_true rfl) (go_wp ok_WH_back [] 50 _ _ _ _ _ _ ?_)
  refine And.intro (fun h => ?_) (fun h => And.intro (fun g => ?_) (fun g => ?_))
  · exact h1 (Or.inl h)
  · conv => whnf
    rw [mI_sI, if_pos ⟨rfl, rfl, rfl⟩]
    exact h2 h g
  · exact h1 (Or.inr (Int32.not_le.mp g))
