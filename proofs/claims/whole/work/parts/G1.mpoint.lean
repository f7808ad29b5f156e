/-! READ: the model's reader: a point's first number, bounds alike on both sides -/
theorem blS_bl {k : Nat} {a b : Bool} {s : Ps} (h : s.2.2 = none) : blS k a (blS k b s) = blS k (a || b) s := by
  obtain ⟨p, q, o⟩ := s
  have h : o = none := h
  subst h
  cases a <;> cases b <;> rfl
def loB (np : Nat) (prev : Int32) : Int32 := if 0 < np ∧ ¬ prev < -90 then prev + 1 else -90
theorem pt_lo {np : Nat} {prev x : Int32} {s : Ps} (hp : 0 < np → s.2.2 = none → -90 ≤ prev.toInt ∧ prev.toInt ≤ 90) :
    blS 5 (decide (0 < np) && decide (x ≤ prev)) (blS 5 (decide (x < -90) || decide (90 < x)) s) = blS 5 (decide (x < loB np prev) || decide (90 < x)) s := by
  cases hs : s.2.2 with
  | some q => rw [blS_some hs, blS_some hs, blS_some hs]
  | none =>
    rw [blS_bl hs]
    congr 1
    unfold loB
    by_cases c : 0 < np
    · obtain ⟨h1, h2⟩ := hp c hs
      have e0 : (-90 : Int32).toInt = -90 := rfl
      have e1 : (prev + 1).toInt = prev.toInt + 1 := by
        rw [Int32.toInt_add]
        exact Int.bmod_eq_of_le (by have : (1 : Int32).toInt = 1 := rfl; omega) (by have : (1 : Int32).toInt = 1 := rfl; omega)
      have c2 : ¬ prev < -90 := by rw [Int32.lt_iff_toInt_lt, e0]; omega
      rw [if_pos ⟨c, c2⟩, decide_eq_true c, Bool.true_and]
      rw [Bool.eq_iff_iff, Bool.or_eq_true, Bool.or_eq_true, Bool.or_eq_true, decide_eq_true_eq, decide_eq_true_eq, decide_eq_true_eq, decide_eq_true_eq, Int32.le_iff_toInt_le, Int32.lt_iff_toInt_lt, Int32.lt_iff_toInt_lt, Int32.lt_iff_toInt_lt, e0, e1]
      omega
    · rw [if_neg (fun q => c q.1), decide_eq_false c, Bool.false_and, Bool.false_or]
