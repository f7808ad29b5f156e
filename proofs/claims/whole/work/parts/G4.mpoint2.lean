/-! READ: the model's reader: a point told -/
/-- a number whose bounds are told after it: what a point's first number comes to -/
theorem px_chain {B : Nat → Nat} {n np : Nat} {e : Except Fa Ps} {v prev : Int32} (hv : ∀ r, eb e (numS B n true) = .ok r → v = r.2)
    (hp : ∀ r, eb e (numS B n true) = .ok r → 0 < np → r.1.2.2 = none → -90 ≤ prev.toInt ∧ prev.toInt ≤ 90) :
    (eb (eb (eb e (numS B n true)) fun r => .ok r.1) fun s => .ok (blS 5 (decide (v < loB np prev) || decide (90 < v)) s)) = eb (eb e (sdS B n 90)) fun r => .ok (blS 5 (decide (0 < np) && decide (r.2 ≤ prev)) r.1) := by
  cases e with
  | error f => rfl
  | ok s =>
    simp only [eb_k] at hv hp ⊢
    rw [sd_num (by decide) (by decide)]
    cases h : numS B n true s with
    | error f => rfl
    | ok q =>
      have := hv q h
      subst this
      simp only [eb_k]
      rw [← pt_lo (hp q h)]
/-- a number within plus or minus a bound -/
theorem py_chain {B : Nat → Nat} {n : Nat} {lim : Int32} {e : Except Fa Ps} {v : Int32} (h3 : 0 ≤ lim.toInt) (h4 : lim.toInt ≤ 9999) (hv : ∀ r, eb e (numS B n true) = .ok r → v = r.2) :
    (eb (eb (eb e (numS B n true)) fun r => .ok r.1) fun s => .ok (blS 5 (decide (v < -lim) || decide (lim < v)) s)) = eb (eb e (sdS B n lim)) fun r => .ok r.1 := by
  cases e with
  | error f => rfl
  | ok s =>
    simp only [eb_k] at hv ⊢
    rw [sd_num h3 h4]
    cases h : numS B n true s with
    | error f => rfl
    | ok q =>
      have := hv q h
      subst this
      simp only [eb_k]
/-- a number within two bounds -/
theorem pn_chain {B : Nat → Nat} {n : Nat} {lo hi : Int32} {e : Except Fa Ps} {v : Int32} (hv : ∀ r, eb e (numS B n false) = .ok r → v = r.2) :
    (eb (eb (eb e (numS B n false)) fun r => .ok r.1) fun s => .ok (blS 5 (decide (v < lo) || decide (hi < v)) s)) = eb (eb e (nuS B n lo hi)) fun r => .ok r.1 := by
  cases e with
  | error f => rfl
  | ok s =>
    simp only [eb_k] at hv ⊢
    rw [nu_num]
    cases h : numS B n false s with
    | error f => rfl
    | ok q =>
      have := hv q h
      subst this
      simp only [eb_k]
