/-! READ: the model's reader: a number and its bounds, against the pure reading -/
theorem dgR_le {B : Nat → Nat} {n : Nat} (hB : ∀ i, B i - 48 ≤ 9 ∨ cDi (B i) = false) : ∀ f a l v, v < 10 ^ (min l 4) → (dgR B n f a l v).2.2 < 10 ^ 4 := by
  intro f
  induction f with
  | zero =>
    intro a l v h
    show v < 10 ^ 4
    exact Nat.lt_of_lt_of_le h (Nat.pow_le_pow_right (by decide) (Nat.min_le_right _ _))
  | succ f ih =>
    intro a l v h
    rw [dgR]
    split
    next c =>
      refine ih (a + 1) (l + 1) _ ?_
      rw [Bool.and_eq_true] at c
      have h9 : B a - 48 ≤ 9 := by
        rcases hB a with q | q
        · exact q
        · rw [q] at c; cases c.2
      split
      next c4 =>
        rw [Nat.min_eq_left (by omega)] at h
        rw [Nat.min_eq_left (by omega), Nat.pow_succ]
        omega
      next c4 =>
        rw [Nat.min_eq_right (by omega)] at h
        rw [Nat.min_eq_right (by omega)]
        exact h
    next => exact Nat.lt_of_lt_of_le h (Nat.pow_le_pow_right (by decide) (Nat.min_le_right _ _))
theorem cDi_le (c : Nat) : c - 48 ≤ 9 ∨ cDi c = false := by
  by_cases h : cDi c = true
  · unfold cDi at h
    rw [Bool.and_eq_true] at h
    have := Nat.le_of_ble_eq_true h.2
    exact Or.inl (by omega)
  · exact Or.inr (Bool.eq_false_iff.mpr h)
theorem tkV_num {B : Nat → Nat} {n i : Nat} (h : tkK B n i = 3) : 0 ≤ (tkV B n i).toInt32.toInt ∧ (tkV B n i).toInt32.toInt ≤ 9999 := by
  unfold tkK at h
  unfold tkV
  generalize psS B n i = a at h
  unfold tokAt at h ⊢
  split at h
  · cases h
  · rw [if_neg (by assumption)]
    split at h
    · split at h
      · cases h
      · exfalso
        have h : wkR _ 22 0 = 3 := h
        have := wkR_kd (wdR B n (n - a) a 0 0).2.2 22 0 (by decide)
        have k3 : ∀ (w : Int64) (f i : Nat), wkR w f i = 3 → False := by
          intro w f
          induction f with
          | zero => intro i h; cases h
          | succ f ih =>
            intro i h
            rw [wkR] at h
            split at h
            · omega
            · exact ih _ h
        exact k3 _ _ _ h
    · rw [if_neg (by assumption)]
      split at h
      · rw [if_pos (by assumption)]
        split at h
        · cases h
        · rw [if_neg (by assumption)]
          have := dgR_le (n := n) (fun i => cDi_le (B i)) (n - a) a 0 0 (by decide)
          show 0 ≤ ((nI (dgR B n (n - a) a 0 0).2.2).toInt64).toInt32.toInt ∧ ((nI (dgR B n (n - a) a 0 0).2.2).toInt64).toInt32.toInt ≤ 9999
          rw [Int32.toInt32_toInt64, nI_toInt (Nat.lt_trans this (by decide))]
          have : (dgR B n (n - a) a 0 0).2.2 < 10000 := this
          omega
      · exfalso
        have h : sgK _ _ = 3 := h
        have k3 : ∀ c e, sgK c e = 3 → False := by
          intro c e h
          unfold sgK at h
          split at h
          · split at h <;> cases h
          · split at h
            · split at h <;> cases h
            · split at h
              · split at h <;> cases h
              · split at h
                · omega
                · cases h
        exact k3 _ _ h
