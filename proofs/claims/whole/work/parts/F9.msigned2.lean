/-! READ: the model's reader: a number and its bounds, II -/
theorem numS_ok {B : Nat → Nat} {n : Nat} {z : Bool} {s : Ps} {r : Ps × Int32} (h : numS B n z s = .ok r) : r.1.2.2 = s.2.2 ∧ 1 ≤ r.1.1 ∧ s.1 ≤ r.1.2.1 := by
  unfold numS at h
  split at h
  · obtain ⟨s1, h1, h2⟩ := eb_ok h
    obtain ⟨s2, h3, h4⟩ := eb_ok h2
    obtain ⟨_, _, rfl⟩ := tkS_ok h1
    obtain ⟨_, _, rfl⟩ := tkS_ok h3
    cases h4
    exact ⟨rfl, Nat.succ_le_succ (Nat.zero_le _), Nat.le_succ _⟩
  · obtain ⟨s2, h3, h4⟩ := eb_ok h
    obtain ⟨_, _, rfl⟩ := tkS_ok h3
    cases h4
    exact ⟨rfl, Nat.succ_le_succ (Nat.zero_le _), Nat.le_refl _⟩
theorem nu_hs {M : Mem} {B : Nat → Nat} {n : Nat} {z : Bool} {e : Except Fa Ps} (h : PsM M B n e) : ∀ r, eb e (numS B n z) = .ok r → 1 ≤ r.1.1 ∧ ∀ q, r.1.2.2 = some q → q.2 < r.1.2.1 := fun r hr => by
  obtain ⟨s, rfl, h2⟩ := eb_ok hr
  obtain ⟨a, b, c⟩ := numS_ok h2
  refine ⟨b, fun q hq => ?_⟩
  have hl := h.2.2.2.2
  rw [← a, hq] at hl
  have := hl.1.2
  omega
theorem nu_num {B : Nat → Nat} {n : Nat} {lo hi : Int32} {s : Ps} : nuS B n lo hi s = eb (numS B n false s) fun r => .ok (blS 5 (decide (r.2 < lo) || decide (hi < r.2)) r.1, r.2) := by
  unfold nuS numS
  rw [if_neg (fun q => by cases q.1), eb_eb]
  exact eb_cg (fun s' _ => by rw [eb_k, Int32.one_mul])
theorem nm1_mul (x : Int32) : -1 * x = -x := by rw [Int32.neg_mul, Int32.one_mul]
theorem sd_ar {x lim : Int32} (h1 : 0 ≤ x.toInt) (h2 : x.toInt ≤ 9999) (h3 : 0 ≤ lim.toInt) (h4 : lim.toInt ≤ 9999) :
    (decide (x < 0) || decide (lim < x)) = (decide (-1 * x < -lim) || decide (lim < -1 * x)) ∧ (decide (x < 0) || decide (lim < x)) = (decide (x < -lim) || decide (lim < x)) := by
  have e0 : (0 : Int32).toInt = 0 := rfl
  have e1 : (-lim).toInt = -lim.toInt := by
    rw [Int32.toInt_neg]
    exact Int.bmod_eq_of_le (by omega) (by omega)
  have e2 : (-1 * x).toInt = -x.toInt := by
    rw [nm1_mul, Int32.toInt_neg]
    exact Int.bmod_eq_of_le (by omega) (by omega)
  refine ⟨?_, ?_⟩
  · rw [Bool.eq_iff_iff, Bool.or_eq_true, Bool.or_eq_true, decide_eq_true_eq, decide_eq_true_eq, decide_eq_true_eq, decide_eq_true_eq, Int32.lt_iff_toInt_lt, Int32.lt_iff_toInt_lt, Int32.lt_iff_toInt_lt, Int32.lt_iff_toInt_lt, e0, e1, e2]
    omega
  · rw [Bool.eq_iff_iff, Bool.or_eq_true, Bool.or_eq_true, decide_eq_true_eq, decide_eq_true_eq, decide_eq_true_eq, Int32.lt_iff_toInt_lt, Int32.lt_iff_toInt_lt, Int32.lt_iff_toInt_lt, e0, e1]
    omega
theorem sd_num {B : Nat → Nat} {n : Nat} {lim : Int32} {s : Ps} (h3 : 0 ≤ lim.toInt) (h4 : lim.toInt ≤ 9999) : sdS B n lim s = eb (numS B n true s) fun r => .ok (blS 5 (decide (r.2 < -lim) || decide (lim < r.2)) r.1, r.2) := by
  unfold sdS numS nuS
  by_cases c : tkK B n s.1 = 45
  · rw [if_pos c, if_pos ⟨rfl, c⟩, eb_eb]
    refine eb_cg (fun s1 _ => ?_)
    rw [eb_eb, eb_eb]
    refine eb_cg (fun s2 hs2 => ?_)
    obtain ⟨hk, _, rfl⟩ := tkS_ok hs2
    have hx := tkV_num hk
    rw [eb_k, eb_k]
    show Except.ok (blS 5 (decide ((tkV B n s1.1).toInt32 < 0) || decide (lim < (tkV B n s1.1).toInt32)) (s1.1 + 1, s1.1, s1.2.2), -(tkV B n s1.1).toInt32) = Except.ok (blS 5 (decide (-1 * (tkV B n s1.1).toInt32 < -lim) || decide (lim < -1 * (tkV B n s1.1).toInt32)) (s1.1 + 1, s1.1, s1.2.2), -1 * (tkV B n s1.1).toInt32)
    rw [(sd_ar hx.1 hx.2 h3 h4).1, nm1_mul]
  · rw [if_neg c, if_neg (fun q => c q.2), eb_eb]
    refine eb_cg (fun s2 hs2 => ?_)
    obtain ⟨hk, _, rfl⟩ := tkS_ok hs2
    have hx := tkV_num hk
    rw [eb_k]
    show Except.ok (blS 5 (decide ((tkV B n s.1).toInt32 < 0) || decide (lim < (tkV B n s.1).toInt32)) (s.1 + 1, s.1, s.2.2), (tkV B n s.1).toInt32) = Except.ok (blS 5 (decide (1 * (tkV B n s.1).toInt32 < -lim) || decide (lim < 1 * (tkV B n s.1).toInt32)) (s.1 + 1, s.1, s.2.2), 1 * (tkV B n s.1).toInt32)
    rw [Int32.one_mul, (sd_ar hx.1 hx.2 h3 h4).2]
