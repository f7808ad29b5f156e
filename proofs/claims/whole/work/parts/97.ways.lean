/-! BEST: the ways, as folds -/
def foN {α : Type} (f : Nat → α → α) : Nat → α → α
  | 0, a => a
  | n + 1, a => f n (foN f n a)
theorem foN_add {α : Type} (f : Nat → α → α) (a : Nat) (x : α) : ∀ b, foN f (a + b) x = foN (fun j => f (a + j)) b (foN f a x) := by
  intro b
  induction b with
  | zero => rfl
  | succ b ih => rw [← Nat.add_assoc, foN, foN, ih]
theorem foN_mul {α : Type} (f : Nat → α → α) (b : Nat) (x : α) : ∀ a, foN f (a * b) x = foN (fun i => foN (fun j => f (i * b + j)) b) a x := by
  intro a
  induction a with
  | zero => rw [Nat.zero_mul]; rfl
  | succ a ih => rw [Nat.succ_mul, foN_add, ih]; rfl
theorem foN_congr {α : Type} {f g : Nat → α → α} : ∀ {n : Nat} {x : α}, (∀ k, k < n → ∀ y, f k y = g k y) → foN f n x = foN g n x := by
  intro n
  induction n with
  | zero => intro x _; rfl
  | succ n ih => intro x h; rw [foN, foN, ih (fun k hk => h k (by omega)), h n (by omega)]
/-- a fold that passes some over -/
theorem foN_skip {α : Type} (f : Nat → α → α) (x : α) (lo hi n : Nat) (h1 : lo ≤ hi) (h2 : hi ≤ n) : foN (fun k y => if lo ≤ k ∧ k < hi then f (k - lo) y else y) n x = foN f (hi - lo) x := by
  have e1 : foN (fun k y => if lo ≤ k ∧ k < hi then f (k - lo) y else y) lo x = x := by
    have : ∀ m, m ≤ lo → foN (fun k y => if lo ≤ k ∧ k < hi then f (k - lo) y else y) m x = x := by
      intro m
      induction m with
      | zero => intro _; rfl
      | succ m ih => intro hm; rw [foN, ih (by omega)]; exact if_neg (by omega)
    exact this lo (Nat.le_refl _)
  have e2 : ∀ m, m ≤ hi - lo → foN (fun k y => if lo ≤ k ∧ k < hi then f (k - lo) y else y) (lo + m) x = foN f m x := by
    intro m
    induction m with
    | zero => intro _; exact e1
    | succ m ih =>
      intro hm
      rw [← Nat.add_assoc, foN, ih (by omega), foN]
      show (if lo ≤ lo + m ∧ lo + m < hi then f (lo + m - lo) (foN f m x) else foN f m x) = _
      rw [if_pos (by omega), show lo + m - lo = m by omega]
  have e3 : ∀ m, hi + m ≤ n → foN (fun k y => if lo ≤ k ∧ k < hi then f (k - lo) y else y) (hi + m) x = foN f (hi - lo) x := by
    intro m
    induction m with
    | zero =>
      intro _
      have := e2 (hi - lo) (Nat.le_refl _)
      rw [show lo + (hi - lo) = hi by omega] at this
      exact this
    | succ m ih =>
      intro hm
      rw [← Nat.add_assoc, foN, ih (by omega)]
      exact if_neg (by omega)
  have := e3 (n - hi) (by omega)
  rw [show hi + (n - hi) = n by omega] at this
  exact this
theorem foN_id {α : Type} {f : Nat → α → α} : ∀ {n : Nat} {x : α}, (∀ k, k < n → ∀ y, f k y = y) → foN f n x = x := by
  intro n
  induction n with
  | zero => intro x _; rfl
  | succ n ih => intro x h; rw [foN, h n (by omega), ih (fun k hk => h k (by omega))]
/-- the digits of a way, to the base of five -/
def dgM : List (Nat × Nat) → Nat → List Nat
  | [], _ => []
  | _ :: js, k => (k / 5 ^ js.length) :: dgM js (k % 5 ^ js.length)
/-- every digit lies in its range -/
def dgG : List (Nat × Nat) → Nat → Bool
  | [], _ => true
  | r :: js, k => (decide (r.1 ≤ k / 5 ^ js.length) && decide (k / 5 ^ js.length < r.1 + r.2)) && dgG js (k % 5 ^ js.length)
def dgP : List (Nat × Nat) → Nat
  | [] => 1
  | r :: js => r.2 * dgP js
/-- the digits of a way within the ranges -/
def dgC : List (Nat × Nat) → Nat → List Nat
  | [], _ => []
  | r :: js, c => (r.1 + c / dgP js) :: dgC js (c % dgP js)
theorem dg_eq {α : Type} : ∀ (ms : List (Nat × Nat)), (∀ r, r ∈ ms → r.1 + r.2 ≤ 5) → ∀ (J : List Nat → α → α) (x : α), foN (fun k y => if dgG ms k = true then J (dgM ms k) y else y) (5 ^ ms.length) x = foN (fun c => J (dgC ms c)) (dgP ms) x := by
  intro ms
  induction ms with
  | nil => intro _ J x; rfl
  | cons r js ih =>
    intro h J x
    have hr := h r (List.mem_cons_self ..)
    have ih := ih (fun r hr => h r (List.mem_cons_of_mem _ hr))
    have hp : 0 < 5 ^ js.length := Nat.pow_pos (by decide)
    rw [show 5 ^ (r :: js).length = 5 * 5 ^ js.length by rw [List.length_cons, Nat.pow_succ, Nat.mul_comm], foN_mul]
    have e1 : foN (fun i => foN (fun j => (fun k y => if dgG (r :: js) k = true then J (dgM (r :: js) k) y else y) (i * 5 ^ js.length + j)) (5 ^ js.length)) 5 x = foN (fun i y => if r.1 ≤ i ∧ i < r.1 + r.2 then (fun i' y => foN (fun c => J ((r.1 + i') :: dgC js c)) (dgP js) y) (i - r.1) y else y) 5 x := by
      refine foN_congr (fun i hi y => ?_)
      have d1 : ∀ j, j < 5 ^ js.length → (i * 5 ^ js.length + j) / 5 ^ js.length = i ∧ (i * 5 ^ js.length + j) % 5 ^ js.length = j := fun j hj => by
        constructor
        · rw [Nat.mul_comm, Nat.mul_add_div hp, Nat.div_eq_of_lt hj, Nat.add_zero]
        · rw [Nat.mul_comm, Nat.mul_add_mod, Nat.mod_eq_of_lt hj]
      by_cases c : r.1 ≤ i ∧ i < r.1 + r.2
      · rw [if_pos c]
        show _ = foN (fun c => J ((r.1 + (i - r.1)) :: dgC js c)) (dgP js) y
        rw [show r.1 + (i - r.1) = i by omega, ← ih (fun l => J (i :: l)) y]
        refine foN_congr (fun j hj z => ?_)
        obtain ⟨q1, q2⟩ := d1 j hj
        show (if dgG (r :: js) (i * 5 ^ js.length + j) = true then J (dgM (r :: js) (i * 5 ^ js.length + j)) z else z) = _
        rw [dgG, dgM, q1, q2, decide_eq_true c.1, decide_eq_true c.2, Bool.true_and, Bool.true_and]
      · rw [if_neg c]
        refine foN_id (fun j hj z => ?_)
        obtain ⟨q1, q2⟩ := d1 j hj
        show (if dgG (r :: js) (i * 5 ^ js.length + j) = true then J (dgM (r :: js) (i * 5 ^ js.length + j)) z else z) = z
        refine if_neg (fun q => c ?_)
        rw [dgG, q1] at q
        have q := (Bool.and_eq_true_iff.mp (Bool.and_eq_true_iff.mp q).1)
        exact ⟨of_decide_eq_true q.1, of_decide_eq_true q.2⟩
    rw [e1]
    refine (foN_skip (fun i' y => foN (fun c => J ((r.1 + i') :: dgC js c)) (dgP js) y) x r.1 (r.1 + r.2) 5 (by omega) hr).trans ?_
    rw [show r.1 + r.2 - r.1 = r.2 by omega, dgP, foN_mul]
    refine foN_congr (fun i hi y => foN_congr (fun c hc z => ?_))
    have hq : 0 < dgP js := by omega
    show J _ z = J (dgC (r :: js) (i * dgP js + c)) z
    rw [dgC, show (i * dgP js + c) / dgP js = i by rw [Nat.mul_comm, Nat.mul_add_div hq, Nat.div_eq_of_lt hc, Nat.add_zero], show (i * dgP js + c) % dgP js = c by rw [Nat.mul_comm, Nat.mul_add_mod, Nat.mod_eq_of_lt hc]]
