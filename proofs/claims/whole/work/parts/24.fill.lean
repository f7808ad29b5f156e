/-! Arrays.fill -/
def sFillI (M : Mem) (k i n : Nat) (x : Int32) : Mem := (M.1, (fun k' i' s' => if k' = k ∧ i' = i ∧ s' < n then x else M.2.1 k' i' s'), M.2.2.1, M.2.2.2)
def sFillJ (M : Mem) (k i n : Nat) (x : Int64) : Mem := (M.1, M.2.1, (fun k' i' s' => if k' = k ∧ i' = i ∧ s' < n then x else M.2.2.1 k' i' s'), M.2.2.2)
theorem sFillI_0 (M : Mem) (k i : Nat) (x : Int32) : sFillI M k i 0 x = M := by
  refine Prod.ext rfl (Prod.ext ?_ rfl)
  funext k' i' s'
  show (if k' = k ∧ i' = i ∧ s' < 0 then x else M.2.1 k' i' s') = _
  rw [if_neg (fun q => Nat.not_lt_zero _ q.2.2)]
theorem sFillJ_0 (M : Mem) (k i : Nat) (x : Int64) : sFillJ M k i 0 x = M := by
  refine Prod.ext rfl (Prod.ext rfl (Prod.ext ?_ rfl))
  funext k' i' s'
  show (if k' = k ∧ i' = i ∧ s' < 0 then x else M.2.2.1 k' i' s') = _
  rw [if_neg (fun q => Nat.not_lt_zero _ q.2.2)]
theorem sFillI_s (M : Mem) (k i n : Nat) (x : Int32) : sI (sFillI M k i n x) k i n x = sFillI M k i (n + 1) x := by
  refine Prod.ext rfl (Prod.ext ?_ rfl)
  funext k' i' s'
  show (if k' = k ∧ i' = i ∧ s' = n then x else (if k' = k ∧ i' = i ∧ s' < n then x else M.2.1 k' i' s')) = if k' = k ∧ i' = i ∧ s' < n + 1 then x else M.2.1 k' i' s'
  by_cases h : k' = k ∧ i' = i
  · simp only [h.1, h.2, true_and]
    by_cases h1 : s' = n
    · rw [if_pos h1, if_pos (by omega)]
    · rw [if_neg h1]
      by_cases h2 : s' < n
      · rw [if_pos h2, if_pos (by omega)]
      · rw [if_neg h2, if_neg (by omega)]
  · rw [if_neg (fun q => h ⟨q.1, q.2.1⟩), if_neg (fun q => h ⟨q.1, q.2.1⟩), if_neg (fun q => h ⟨q.1, q.2.1⟩)]
theorem sFillJ_s (M : Mem) (k i n : Nat) (x : Int64) : sJ (sFillJ M k i n x) k i n x = sFillJ M k i (n + 1) x := by
  refine Prod.ext rfl (Prod.ext rfl (Prod.ext ?_ rfl))
  funext k' i' s'
  show (if k' = k ∧ i' = i ∧ s' = n then x else (if k' = k ∧ i' = i ∧ s' < n then x else M.2.2.1 k' i' s')) = if k' = k ∧ i' = i ∧ s' < n + 1 then x else M.2.2.1 k' i' s'
  by_cases h : k' = k ∧ i' = i
  · simp only [h.1, h.2, true_and]
    by_cases h1 : s' = n
    · rw [if_pos h1, if_pos (by omega)]
    · rw [if_neg h1]
      by_cases h2 : s' < n
      · rw [if_pos h2, if_pos (by omega)]
      · rw [if_neg h2, if_neg (by omega)]
  · rw [if_neg (fun q => h ⟨q.1, q.2.1⟩), if_neg (fun q => h ⟨q.1, q.2.1⟩), if_neg (fun q => h ⟨q.1, q.2.1⟩)]
theorem lp_fillI (Ω : Om) (md : Bool) (M : Mem) (k i n : Nat) (x : Int32) (K : Ka) (hk : kd (oN Ω) k = .inr (0, n)) (hkK : k < kK) (hn : n ≤ 3000) (h : K none (sFillI M k i n x)) : ∀ (f j : Nat), j ≤ n → n - j ≤ f →
    GoS Ω md m_Arrays_fill_53178 K 5 [some (vR (some (k, i))), some (vI x), some (vI (nI j)), some (vI (nI n))] [] (sFillI M k i j x) 0 0 := by
  intro f
  induction f with
  | zero =>
    intro j hj hf
    have e : j = n := by omega
    subst e
    refine go_wp ok_Arrays_fill_53178 [] 10 _ _ _ _ _ _ ?_
    exact br_t (Int32.le_refl _) h
  | succ f ih =>
    intro j hj hf
    refine go_wp ok_Arrays_fill_53178 [5] 10 _ _ _ _ _ _ ?_
    refine And.intro (fun g => ?_) (fun g => ?_)
    · have e : j = n := by
        rw [nI_leI (by omega) (by omega)] at g
        omega
      subst e
      exact h
    · have hlt : j < n := by
        rw [nI_leI (by omega) (by omega)] at g
        omega
      conv => whnf
      rw [hk]
      conv => whnf
      rw [show Nat.ble (k + 1) kK = true from Nat.ble_eq.mpr hkK]
      refine And.intro (vp_in_nI hlt (by omega)) ?_
      rw [nI_clamp (by omega), sFillI_s]
      have := ih (j + 1) hlt (by omega)
      rw [← nI_1] at this
      exact this
theorem c_fillI (Ω : Om) (md : Bool) (M : Mem) (k i n : Nat) (x : Int32) (K : Ka) (hk : kd (oN Ω) k = .inr (0, n)) (hkK : k < kK) (hn : n ≤ 3000) (h : K none (sFillI M k i n x)) : CallS Ω md m_Arrays_fill_53178 [vR (some (k, i)), vI x] M K := by
  refine call_go (hJL rfl) (Nat.le_of_ble_eq_true rfl) (go_wp ok_Arrays_fill_53178 [5] 10 _ _ _ _ _ _ ?_)
  conv => whnf
  rw [hk]
  have := lp_fillI Ω md M k i n x K hk hkK hn h n 0 (Nat.zero_le _) (by omega)
  rw [sFillI_0] at this
  exact this
theorem lp_fillJ (Ω : Om) (md : Bool) (M : Mem) (k i n : Nat) (x : Int64) (K : Ka) (hk : kd (oN Ω) k = .inr (3, n)) (hn : n ≤ 3000) (h : K none (sFillJ M k i n x)) : ∀ (f j : Nat), j ≤ n → n - j ≤ f →
    GoS Ω md m_Arrays_fill_d0a16 K 6 [some (vR (some (k, i))), some (vJ x), none, some (vI (nI j)), some (vI (nI n))] [] (sFillJ M k i j x) 0 0 := by
  intro f
  induction f with
  | zero =>
    intro j hj hf
    have e : j = n := by omega
    subst e
    refine go_wp ok_Arrays_fill_d0a16 [] 10 _ _ _ _ _ _ ?_
    exact br_t (Int32.le_refl _) h
  | succ f ih =>
    intro j hj hf
    refine go_wp ok_Arrays_fill_d0a16 [6] 10 _ _ _ _ _ _ ?_
    refine And.intro (fun g => ?_) (fun g => ?_)
    · have e : j = n := by
        rw [nI_leI (by omega) (by omega)] at g
        omega
      subst e
      exact h
    · have hlt : j < n := by
        rw [nI_leI (by omega) (by omega)] at g
        omega
      conv => whnf
      rw [hk]
      refine And.intro (vp_in_nI hlt (by omega)) ?_
      rw [nI_clamp (by omega), sFillJ_s]
      have := ih (j + 1) hlt (by omega)
      rw [← nI_1] at this
      exact this
theorem c_fillJ (Ω : Om) (md : Bool) (M : Mem) (k i n : Nat) (x : Int64) (K : Ka) (hk : kd (oN Ω) k = .inr (3, n)) (hn : n ≤ 3000) (h : K none (sFillJ M k i n x)) : CallS Ω md m_Arrays_fill_d0a16 [vR (some (k, i)), vJ x] M K := by
  refine call_go (hJL rfl) (Nat.le_of_ble_eq_true rfl) (go_wp ok_Arrays_fill_d0a16 [6] 10 _ _ _ _ _ _ ?_)
  conv => whnf
  rw [hk]
  have := lp_fillJ Ω md M k i n x K hk hn h n 0 (Nat.zero_le _) (by omega)
  rw [sFillJ_0] at this
  exact this
