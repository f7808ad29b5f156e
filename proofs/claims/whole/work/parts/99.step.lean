/-! BEST: the ways, the last digit first -/
def up1 (d : Nat → Nat) (m x : Nat) : Nat → Nat := fun i => if i = m then x else d i
/-- the model's digits of a way -/
def kF : Nat → Nat → Nat → Nat
  | 0, _ => fun _ => 0
  | m + 1, k => up1 (kF m (k / 5)) m (k % 5)
def kG (lo n : Nat → Nat) : Nat → Nat → Bool
  | 0, _ => true
  | m + 1, k => kG lo n m (k / 5) && (decide (lo m ≤ k % 5) && decide (k % 5 < lo m + n m))
/-- the class's digits of a way, and how many -/
def dF (lo n : Nat → Nat) : Nat → Nat → Nat → Nat
  | 0, _ => fun _ => 0
  | m + 1, c => up1 (dF lo n m (c / n m)) m (lo m + c % n m)
def dP (n : Nat → Nat) : Nat → Nat
  | 0 => 1
  | m + 1 => dP n m * n m
theorem dF_eq {α : Type} (lo n : Nat → Nat) : ∀ m, (∀ j, j < m → lo j + n j ≤ 5) → ∀ (J : (Nat → Nat) → α → α) (x : α), foN (fun k y => if kG lo n m k = true then J (kF m k) y else y) (5 ^ m) x = foN (fun c => J (dF lo n m c)) (dP n m) x := by
  intro m
  induction m with
  | zero => intro _ J x; rfl
  | succ m ih =>
    intro h J x
    have hm := h m (by omega)
    rw [Nat.pow_succ, foN_mul, dP, foN_mul]
    have ih := ih (fun j hj => h j (by omega)) (fun d y => foN (fun r => J (up1 d m (lo m + r))) (n m) y) x
    have e1 : foN (fun i => foN (fun j => (fun k y => if kG lo n (m + 1) k = true then J (kF (m + 1) k) y else y) (i * 5 + j)) 5) (5 ^ m) x = foN (fun k y => if kG lo n m k = true then (fun d y => foN (fun r => J (up1 d m (lo m + r))) (n m) y) (kF m k) y else y) (5 ^ m) x := by
      refine foN_congr (fun i hi y => ?_)
      have d1 : ∀ j, j < 5 → (i * 5 + j) / 5 = i ∧ (i * 5 + j) % 5 = j := fun j hj => ⟨by omega, by omega⟩
      by_cases c : kG lo n m i = true
      · rw [if_pos c]
        have e2 := foN_skip (fun r => J (up1 (kF m i) m (lo m + r))) y (lo m) (lo m + n m) 5 (by omega) hm
        rw [show lo m + n m - lo m = n m by omega] at e2
        refine Eq.trans ?_ e2
        refine foN_congr (fun j hj z => ?_)
        obtain ⟨q1, q2⟩ := d1 j hj
        show (if kG lo n (m + 1) (i * 5 + j) = true then J (kF (m + 1) (i * 5 + j)) z else z) = _
        rw [kG, kF, q1, q2, c, Bool.true_and]
        by_cases c2 : lo m ≤ j ∧ j < lo m + n m
        · rw [if_pos c2, decide_eq_true c2.1, decide_eq_true c2.2, show lo m + (j - lo m) = j by omega]; rfl
        · rw [if_neg c2]
          refine if_neg (fun q => c2 ?_)
          have q := Bool.and_eq_true_iff.mp q
          exact ⟨of_decide_eq_true q.1, of_decide_eq_true q.2⟩
      · rw [if_neg c]
        refine foN_id (fun j hj z => ?_)
        obtain ⟨q1, q2⟩ := d1 j hj
        show (if kG lo n (m + 1) (i * 5 + j) = true then J (kF (m + 1) (i * 5 + j)) z else z) = z
        refine if_neg (fun q => c ?_)
        rw [kG, q1] at q
        exact (Bool.and_eq_true_iff.mp q).1
    refine e1.trans (ih.trans ?_)
    refine foN_congr (fun i hi y => foN_congr (fun c hc z => ?_))
    have hq : 0 < n m := by omega
    show J _ z = J (dF lo n (m + 1) (i * n m + c)) z
    rw [dF, show (i * n m + c) / n m = i by rw [Nat.mul_comm, Nat.mul_add_div hq, Nat.div_eq_of_lt hc, Nat.add_zero], show (i * n m + c) % n m = c by rw [Nat.mul_comm, Nat.mul_add_mod, Nat.mod_eq_of_lt hc]]
