/-! READ: the model's reader: laws and hinges named -/
/-- a search from the last down, the least that fits stays -/
def dn (P : Nat → Bool) : Nat → Option Nat → Option Nat
  | 0, r => r
  | m + 1, r => dn P m (if P m = true then some m else r)
theorem dn_eq {P : Nat → Bool} : ∀ {m : Nat} {r : Option Nat}, (∀ k, dn P m r = some k → (k < m ∧ P k = true) ∨ r = some k) ∧ (dn P m r = none → r = none ∧ ∀ j, j < m → P j = false) := by
  intro m
  induction m with
  | zero => intro r; exact ⟨fun k h => Or.inr h, fun h => ⟨h, fun j hj => absurd hj (Nat.not_lt_zero _)⟩⟩
  | succ m ih =>
    intro r
    obtain ⟨i1, i2⟩ := @ih (if P m = true then some m else r)
    refine ⟨fun k h => ?_, fun h => ?_⟩
    · rcases i1 k h with ⟨a, b⟩ | a
      · exact Or.inl ⟨by omega, b⟩
      · split at a
        next c => cases a; exact Or.inl ⟨by omega, c⟩
        next => exact Or.inr a
    · obtain ⟨a, b⟩ := i2 h
      split at a
      next => cases a
      next c =>
        refine ⟨a, fun j hj => ?_⟩
        by_cases e : j = m
        · rw [e]; exact Bool.eq_false_iff.mpr c
        · exact b j (by omega)
theorem find_mem {N : Nm} (h : N.Pairwise (fun a b => ¬ a.1 = b.1)) {q : Int64 × Nat × Nat} (hq : q ∈ N) : N.find? (fun p => decide (p.1 = q.1)) = some q := by
  induction N with
  | nil => cases hq
  | cons a N ih =>
    rw [List.pairwise_cons] at h
    rw [List.find?_cons]
    rcases List.mem_cons.mp hq with e | e
    · rw [← e, decide_eq_true rfl]
    · rw [decide_eq_false (h.1 q e)]
      exact ih h.2 e
theorem NmM.law {M : Mem} {p : Nat} {N : Nm} {nl nh nw nb : Nat} (h : NmM M p N nl nh nw nb) (x : Int64) (z : Bool) :
    dn (fun k => decide (mJ M 75 0 (8 * p + k) = x) && decide (mI M 76 0 (8 * p + k) = bI z)) nl none = nmF N x (if z = true then 201 else 200) := by
  obtain ⟨a1, -, -, -, a5, a6⟩ := h
  have key : ∀ k, k < nl → mJ M 75 0 (8 * p + k) = x → ∃ so, N.find? (fun q => decide (q.1 = x)) = some (x, so, k) ∧ (so = 200 ∧ mI M 76 0 (8 * p + k) = 0 ∨ so = 201 ∧ mI M 76 0 (8 * p + k) = 1) := fun k hk hx => by
    obtain ⟨so, b1, b2⟩ := a1 k hk
    rw [hx] at b2
    exact ⟨so, find_mem a6 b2, b1⟩
  cases hd : dn (fun k => decide (mJ M 75 0 (8 * p + k) = x) && decide (mI M 76 0 (8 * p + k) = bI z)) nl none with
  | some k =>
    rcases dn_eq.1 k hd with ⟨b1, b2⟩ | b
    · rw [Bool.and_eq_true] at b2
      obtain ⟨so, c1, c2⟩ := key k b1 (of_decide_eq_true b2.1)
      have c3 := of_decide_eq_true b2.2
      have : so = if z = true then 201 else 200 := by
        cases z with
        | false =>
          rcases c2 with ⟨d, _⟩ | ⟨d, d2⟩
          · rw [d]; rfl
          · rw [d2] at c3; exact absurd c3 (by decide)
        | true =>
          rcases c2 with ⟨d, d2⟩ | ⟨d, _⟩
          · rw [d2] at c3; exact absurd c3 (by decide)
          · rw [d]; rfl
      unfold nmF
      rw [c1]
      show some k = if so = _ then some k else none
      rw [if_pos this]
    · cases b
  | none =>
    have hno := (dn_eq.2 hd).2
    unfold nmF
    cases hf : N.find? (fun q => decide (q.1 = x)) with
    | none => rfl
    | some q =>
      show none = if q.2.1 = _ then some q.2.2 else none
      by_cases c : q.2.1 = if z = true then 201 else 200
      · exfalso
        have m := List.mem_of_find?_eq_some hf
        have e : q.1 = x := by simpa using List.find?_some hf
        have hq : q.2.2 < nl ∧ mJ M 75 0 (8 * p + q.2.2) = q.1 := by
          have : q.2.1 = 200 ∨ q.2.1 = 201 := by
            rw [c]
            cases z
            · exact Or.inl rfl
            · exact Or.inr rfl
          rcases a5 q m with ⟨_, b, d⟩ | ⟨b, _⟩ | ⟨b, _⟩ | ⟨b, _⟩
          · exact ⟨b, d⟩
          all_goals (rw [b] at this; omega)
        obtain ⟨so, d1, d2⟩ := key _ hq.1 (hq.2.trans e)
        rw [hf] at d1
        have d3 : q.2.1 = so := congrArg (fun v => v.2.1) (Option.some.inj d1)
        have := hno _ hq.1
        rw [hq.2, e, decide_eq_true rfl, Bool.true_and] at this
        refine of_decide_eq_false this ?_
        rw [d3] at c
        cases z with
        | false =>
          have c : so = 200 := c
          rcases d2 with ⟨_, d⟩ | ⟨d, _⟩
          · exact d
          · omega
        | true =>
          have c : so = 201 := c
          rcases d2 with ⟨d, _⟩ | ⟨_, d⟩
          · omega
          · exact d
      · rw [if_neg c]
theorem NmM.hinge {M : Mem} {p : Nat} {N : Nm} {nl nh nw nb : Nat} (h : NmM M p N nl nh nw nb) (x : Int64) :
    dn (fun k => decide (mJ M 81 0 (4 * p + k) = x)) nh none = nmF N x 202 := by
  obtain ⟨-, a2, -, -, a5, a6⟩ := h
  cases hd : dn (fun k => decide (mJ M 81 0 (4 * p + k) = x)) nh none with
  | some k =>
    rcases dn_eq.1 k hd with ⟨b1, b2⟩ | b
    · have b3 := a2 k b1
      rw [of_decide_eq_true b2] at b3
      unfold nmF
      rw [find_mem a6 b3]
      rfl
    · cases b
  | none =>
    have hno := (dn_eq.2 hd).2
    unfold nmF
    cases hf : N.find? (fun q => decide (q.1 = x)) with
    | none => rfl
    | some q =>
      show none = if q.2.1 = _ then some q.2.2 else none
      by_cases c : q.2.1 = 202
      · exfalso
        have m := List.mem_of_find?_eq_some hf
        have e : q.1 = x := by simpa using List.find?_some hf
        have hq : q.2.2 < nh ∧ mJ M 81 0 (4 * p + q.2.2) = q.1 := by
          rcases a5 q m with ⟨b, _⟩ | ⟨_, b, d⟩ | ⟨b, _⟩ | ⟨b, _⟩
          · omega
          · exact ⟨b, d⟩
          all_goals omega
        exact of_decide_eq_false (hno _ hq.1) (hq.2.trans e)
      · rw [if_neg c]
/-- one less, as the machine has it -/
def pd (m : Nat) : Int32 := nI m - 1
theorem pd_0 : pd 0 = -1 := by decide
theorem pd_s (m : Nat) : pd (m + 1) = nI m := by
  unfold pd
  rw [← nI_1]
  exact Int32.add_sub_cancel _ _
theorem pd_d (m : Nat) : nI m + -1 = pd m := by
  unfold pd
  rw [Int32.sub_eq_add_neg]
