/-! READ: tokens, as pure functions -/
def cBl (c : Nat) : Bool := Nat.beq c 9 || (Nat.beq c 10 || (Nat.beq c 13 || Nat.beq c 32))
def cLe (c : Nat) : Bool := Nat.ble 97 c && Nat.ble c 122
def cDi (c : Nat) : Bool := Nat.ble 48 c && Nat.ble c 57
def skR (B : Nat → Nat) (n : Nat) : Nat → Nat → Nat
  | 0, a => a
  | f + 1, a => if (Nat.ble (a + 1) n && cBl (B a)) = true then skR B n f (a + 1) else a
def ltV (w : Int64) (c : Nat) : Int64 := w * 27 + (nI c - 97 + 1).toInt64
def wdR (B : Nat → Nat) (n : Nat) : Nat → Nat → Nat → Int64 → Nat × Nat × Int64
  | 0, a, l, w => (a, l, w)
  | f + 1, a, l, w => if (Nat.ble (a + 1) n && cLe (B a)) = true then wdR B n f (a + 1) (l + 1) (if l < 8 then ltV w (B a) else w) else (a, l, w)
def dgR (B : Nat → Nat) (n : Nat) : Nat → Nat → Nat → Nat → Nat × Nat × Nat
  | 0, a, l, v => (a, l, v)
  | f + 1, a, l, v => if (Nat.ble (a + 1) n && cDi (B a)) = true then dgR B n f (a + 1) (l + 1) (if l < 4 then v * 10 + (B a - 48) else v) else (a, l, v)
def sgK (c : Nat) (e : Bool) : Nat := if c = 61 then (if e = true then 4 else 1) else if c = 33 then (if e = true then 5 else 1) else if c = 60 then (if e = true then 7 else 6) else if c = 40 ∨ c = 41 ∨ c = 42 ∨ c = 43 ∨ c = 44 ∨ c = 45 ∨ c = 47 ∨ c = 58 ∨ c = 59 then c else 1
def sgL (c : Nat) (e : Bool) : Nat := if e = true ∧ (c = 61 ∨ c = 33 ∨ c = 60) then 2 else 1
/-- which word it is, from the i-th on -/
def wkR (w : Int64) : Nat → Nat → Nat
  | 0, _ => 2
  | f + 1, i => if iJ 49 i = w then 200 + i else wkR w f (i + 1)
/-- the token at a place: its kind, its value, what is behind it -/
def tokAt (B : Nat → Nat) (n a : Nat) : Nat × Int64 × Nat :=
  if Nat.ble (a + 1) n = false then (0, 0, a)
  else if cLe (B a) = true then (if 8 < (wdR B n (n - a) a 0 0).2.1 then (1, 0, (wdR B n (n - a) a 0 0).1) else (wkR (wdR B n (n - a) a 0 0).2.2 22 0, (wdR B n (n - a) a 0 0).2.2, (wdR B n (n - a) a 0 0).1))
  else if cDi (B a) = true then (if 4 < (dgR B n (n - a) a 0 0).2.1 then (1, 0, (dgR B n (n - a) a 0 0).1) else (3, (nI (dgR B n (n - a) a 0 0).2.2).toInt64, (dgR B n (n - a) a 0 0).1))
  else (sgK (B a) (Nat.ble (a + 2) n && Nat.beq (B (a + 1)) 61), 0, a + sgL (B a) (Nat.ble (a + 2) n && Nat.beq (B (a + 1)) 61))
def psS (B : Nat → Nat) (n : Nat) : Nat → Nat
  | 0 => skR B n n 0
  | i + 1 => skR B n (n - (tokAt B n (psS B n i)).2.2) (tokAt B n (psS B n i)).2.2
def tkK (B : Nat → Nat) (n i : Nat) : Nat := (tokAt B n (psS B n i)).1
def tkV (B : Nat → Nat) (n i : Nat) : Int64 := (tokAt B n (psS B n i)).2.1
theorem skR_ge {B : Nat → Nat} {n : Nat} : ∀ f a, a ≤ skR B n f a ∧ (a + f = n → skR B n f a ≤ n) := by
  intro f
  induction f with
  | zero => intro a; exact ⟨Nat.le_refl _, fun h => by show a ≤ n; omega⟩
  | succ f ih =>
    intro a
    rw [skR]
    split
    · have := ih (a + 1)
      exact ⟨by omega, fun h => this.2 (by omega)⟩
    · exact ⟨Nat.le_refl _, fun h => by omega⟩
theorem skR_end {B : Nat → Nat} {n : Nat} : ∀ f a, a + f = n → (Nat.ble (skR B n f a + 1) n && cBl (B (skR B n f a))) = false := by
  intro f
  induction f with
  | zero =>
    intro a h
    rw [skR, show Nat.ble (a + 1) n = false from Bool.eq_false_iff.mpr (fun q => by have := Nat.le_of_ble_eq_true q; omega)]
    rfl
  | succ f ih =>
    intro a h
    rw [skR]
    by_cases c : (Nat.ble (a + 1) n && cBl (B a)) = true
    · rw [if_pos c]; exact ih (a + 1) (by omega)
    · rw [if_neg c]; exact Bool.eq_false_iff.mpr c
theorem wdR_ge {B : Nat → Nat} {n : Nat} : ∀ f a l w, (a ≤ (wdR B n f a l w).1 ∧ (a + f = n → (wdR B n f a l w).1 ≤ n)) ∧ (wdR B n f a l w).2.1 + a = (wdR B n f a l w).1 + l := by
  intro f
  induction f with
  | zero => intro a l w; exact ⟨⟨Nat.le_refl _, fun h => by show a ≤ n; omega⟩, by show l + a = a + l; omega⟩
  | succ f ih =>
    intro a l w
    rw [wdR]
    split
    · have := ih (a + 1) (l + 1) (if l < 8 then ltV w (B a) else w)
      exact ⟨⟨by omega, fun h => this.1.2 (by omega)⟩, by omega⟩
    · exact ⟨⟨Nat.le_refl _, fun h => by show a ≤ n; omega⟩, by show l + a = a + l; omega⟩
theorem dgR_ge {B : Nat → Nat} {n : Nat} : ∀ f a l v, (a ≤ (dgR B n f a l v).1 ∧ (a + f = n → (dgR B n f a l v).1 ≤ n)) ∧ (dgR B n f a l v).2.1 + a = (dgR B n f a l v).1 + l := by
  intro f
  induction f with
  | zero => intro a l w; exact ⟨⟨Nat.le_refl _, fun h => by show a ≤ n; omega⟩, by show l + a = a + l; omega⟩
  | succ f ih =>
    intro a l v
    rw [dgR]
    split
    · have := ih (a + 1) (l + 1) (if l < 4 then v * 10 + (B a - 48) else v)
      exact ⟨⟨by omega, fun h => this.1.2 (by omega)⟩, by omega⟩
    · exact ⟨⟨Nat.le_refl _, fun h => by show a ≤ n; omega⟩, by show l + a = a + l; omega⟩
theorem dgR_lt {B : Nat → Nat} {n : Nat} : ∀ f a l v, v < 10 ^ (min l 4) → (dgR B n f a l v).2.2 < 10000 := by
  have p4 : ∀ l, 10 ^ (min l 4) ≤ 10000 := fun l => Nat.pow_le_pow_right (n := 10) (by decide) (Nat.min_le_right l 4)
  intro f
  induction f with
  | zero => intro a l v h; exact Nat.lt_of_lt_of_le h (p4 l)
  | succ f ih =>
    intro a l v h
    rw [dgR]
    split
    next c =>
      refine ih (a + 1) (l + 1) _ ?_
      have hc := (Bool.and_eq_true_iff.mp c).2
      have h9 : B a - 48 ≤ 9 := by
        have := Nat.le_of_ble_eq_true (Bool.and_eq_true_iff.mp hc).2
        omega
      by_cases l4 : l < 4
      · rw [if_pos l4, show min (l + 1) 4 = l + 1 by omega, Nat.pow_succ]
        rw [show min l 4 = l by omega] at h
        omega
      · rw [if_neg l4, show min (l + 1) 4 = 4 by omega]
        rw [show min l 4 = 4 by omega] at h
        exact h
    next => exact Nat.lt_of_lt_of_le h (p4 l)
/-- what is behind a token -/
theorem tokAt_ge {B : Nat → Nat} {n a : Nat} (h : a ≤ n) : (a ≤ (tokAt B n a).2.2 ∧ (tokAt B n a).2.2 ≤ n) ∧ (¬ (tokAt B n a).1 = 0 → a < (tokAt B n a).2.2) ∧ ((tokAt B n a).1 = 0 ↔ ¬ a < n) := by
  unfold tokAt
  have w0 := (wdR_ge (B := B) (n := n) (n - a) a 0 0)
  have d0 := (dgR_ge (B := B) (n := n) (n - a) a 0 0)
  have wk : ∀ w f i, ¬ wkR w f i = 0 := fun w f => by
    induction f with
    | zero => intro i q; cases q
    | succ f ih => intro i q; rw [wkR] at q; split at q; omega; exact ih _ q
  by_cases c : Nat.ble (a + 1) n = false
  · rw [if_pos c]
    have c2 : ¬ a < n := fun q => by rw [Nat.ble_eq.mpr (show a + 1 ≤ n from q)] at c; cases c
    exact ⟨⟨Nat.le_refl _, h⟩, fun q => absurd rfl q, fun _ => c2, fun _ => rfl⟩
  rw [if_neg c]
  have c2 : a < n := Nat.le_of_ble_eq_true (by cases e : Nat.ble (a + 1) n with | true => rfl | false => exact absurd e c)
  by_cases hl : cLe (B a) = true
  · rw [if_pos hl]
    have w1 : a < (wdR B n (n - a) a 0 0).1 := by
      obtain ⟨f, hf⟩ : ∃ f, n - a = f + 1 := ⟨n - a - 1, by omega⟩
      rw [hf, wdR, Nat.ble_eq.mpr (show a + 1 ≤ n from c2), hl]
      have := (wdR_ge (B := B) (n := n) f (a + 1) (0 + 1) (if 0 < 8 then ltV 0 (B a) else 0)).1.1
      exact this
    split
    · exact ⟨⟨Nat.le_of_lt w1, w0.1.2 (by omega)⟩, fun _ => w1, ⟨fun q => absurd (show (1 : Nat) = 0 from q) (by decide), fun q => absurd c2 q⟩⟩
    · exact ⟨⟨Nat.le_of_lt w1, w0.1.2 (by omega)⟩, fun _ => w1, ⟨fun q => absurd q (wk _ _ _), fun q => absurd c2 q⟩⟩
  rw [if_neg hl]
  by_cases hd : cDi (B a) = true
  · rw [if_pos hd]
    have w1 : a < (dgR B n (n - a) a 0 0).1 := by
      obtain ⟨f, hf⟩ : ∃ f, n - a = f + 1 := ⟨n - a - 1, by omega⟩
      rw [hf, dgR, Nat.ble_eq.mpr (show a + 1 ≤ n from c2), hd]
      have := (dgR_ge (B := B) (n := n) f (a + 1) (0 + 1) (if 0 < 4 then 0 * 10 + (B a - 48) else 0)).1.1
      exact this
    split
    · exact ⟨⟨Nat.le_of_lt w1, d0.1.2 (by omega)⟩, fun _ => w1, ⟨fun q => absurd (show (1 : Nat) = 0 from q) (by decide), fun q => absurd c2 q⟩⟩
    · exact ⟨⟨Nat.le_of_lt w1, d0.1.2 (by omega)⟩, fun _ => w1, ⟨fun q => absurd (show (3 : Nat) = 0 from q) (by decide), fun q => absurd c2 q⟩⟩
  rw [if_neg hd]
  have hs : 1 ≤ sgL (B a) (Nat.ble (a + 2) n && Nat.beq (B (a + 1)) 61) ∧ a + sgL (B a) (Nat.ble (a + 2) n && Nat.beq (B (a + 1)) 61) ≤ n := by
    unfold sgL
    split
    next q =>
      have := Nat.le_of_ble_eq_true (Bool.and_eq_true_iff.mp q.1).1
      omega
    next => omega
  refine ⟨⟨?_, hs.2⟩, fun _ => ?_, fun q => ?_, fun q => absurd c2 q⟩
  · show a ≤ a + _; omega
  · show a < a + _; omega
  · exfalso
    have q : sgK (B a) (Nat.ble (a + 2) n && Nat.beq (B (a + 1)) 61) = 0 := q
    unfold sgK at q
    split at q
    · split at q <;> omega
    · split at q
      · split at q <;> omega
      · split at q
        · split at q <;> omega
        · split at q <;> omega
theorem ps_le (B : Nat → Nat) (n : Nat) : ∀ i, psS B n i ≤ n := by
  intro i
  induction i with
  | zero => exact (skR_ge n 0).2 (by omega)
  | succ i ih =>
    rw [psS]
    have := (tokAt_ge (B := B) ih).1
    exact (skR_ge _ _).2 (by omega)
theorem ps_lt {B : Nat → Nat} {n i : Nat} (h : ¬ tkK B n i = 0) : psS B n i < psS B n (i + 1) := by
  rw [psS]
  have h1 := (tokAt_ge (B := B) (ps_le B n i)).2.1 h
  have h2 := (skR_ge (B := B) (n := n) (n - (tokAt B n (psS B n i)).2.2) (tokAt B n (psS B n i)).2.2).1
  omega
/-- the i-th token can be reached -/
def rch (B : Nat → Nat) (n i : Nat) : Prop := i ≤ 500 ∧ ∀ j, j < i → 2 ≤ tkK B n j
theorem rch_lt {B : Nat → Nat} {n i : Nat} (h : rch B n i) : ∀ j, j < i → psS B n j < psS B n i := by
  have : ∀ d j, j + d + 1 = i → psS B n j < psS B n i := by
    intro d
    induction d with
    | zero => intro j e; rw [← e]; exact ps_lt (by have := h.2 j (by omega); omega)
    | succ d ih =>
      intro j e
      have := ih (j + 1) (by omega)
      have h2 := ps_lt (B := B) (n := n) (i := j) (by have := h.2 j (by omega); omega)
      omega
  intro j hj
  exact this (i - j - 1) j (by omega)
