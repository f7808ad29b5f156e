/-! BEST: the ways, as folds -/
def foN {α : Type} (f : Nat → α → α) : Nat → α → α
  | 0, a => a
  | n + 1, a => f n (foN f n a)
theorem foN_add {α : Type} (f : Nat → α → α) (a : Nat) (x : α) : ∀ b, foN f (a + b) x = foN (fun j => f (a + j)) b (foN f a x) := by
  intro b
  induction b with
  | zero => rfl
  | succ b ih => rw [← Nat.add_assoc, foN, foN, ih]
theorem foN_mul {α : Type} (f : Nat → α → α) (b : Nat) (x : α) : ∀ a, foN f (a * b) x = foN (fun i => foN (fun j => f (i * b + j)) b) a x := by
  intro a
  induction a with
  | zero => rw [Nat.zero_mul]; rfl
  | succ a ih => rw [Nat.succ_mul, foN_add, ih]; rfl
theorem foN_congr {α : Type} {f g : Nat → α → α} : ∀ {n : Nat} {x : α}, (∀ k, k < n → ∀ y, f k y = g k y) → foN f n x = foN g n x := by
  intro n
  induction n with
  | zero => intro x _; rfl
  | succ n ih => intro x h; rw [foN, foN, ih (fun k hk => h k (by omega)), h n (by omega)]
/-- a fold that passes some over -/
theorem foN_skip {α : Type} (f : Nat → α → α) (x : α) (lo hi n : Nat) (h1 : lo ≤ hi) (h2 : hi ≤ n) : foN (fun k y => if lo ≤ k ∧ k < hi then f (k - lo) y else y) n x = foN f (hi - lo) x := by
  have e1 : foN (fun k y => if lo ≤ k ∧ k < hi then f (k - lo) y else y) lo x = x := by
    have : ∀ m, m ≤ lo → foN (fun k y => if lo ≤ k ∧ k < hi then f (k - lo) y else y) m x = x := by
      intro m
      induction m with
      | zero => intro _; rfl
      | succ m ih => intro hm; rw [foN, ih (by omega)]; exact if_neg (by omega)
    exact this lo (Nat.le_refl _)
  have e2 : ∀ m, m ≤ hi - lo → foN (fun k y => if lo ≤ k ∧ k < hi then f (k - lo) y else y) (lo + m) x = foN f m x := by
    intro m
    induction m with
    | zero => intro _; exact e1
    | succ m ih =>
      intro hm
      rw [← Nat.add_assoc, foN, ih (by omega), foN]
      show (if lo ≤ lo + m ∧ lo + m < hi then f (lo + m - lo) (foN f m x) else foN f m x) = _
      rw [if_pos (by omega), show lo + m - lo = m by omega]
  have e3 : ∀ m, hi + m ≤ n → foN (fun k y => if lo ≤ k ∧ k < hi then f (k - lo) y else y) (hi + m) x = foN f (hi - lo) x := by
    intro m
    induction m with
    | zero =>
      intro _
      have := e2 (hi - lo) (Nat.le_refl _)
      rw [show lo + (hi - lo) = hi by omega] at this
      exact this
    | succ m ih =>
      intro hm
      rw [← Nat.add_assoc, foN, ih (by omega)]
      exact if_neg (by omega)
  have := e3 (n - hi) (by omega)
  rw [show hi + (n - hi) = n by omega] at this
  exact this
