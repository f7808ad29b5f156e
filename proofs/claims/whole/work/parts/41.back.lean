/-! BACK, the model's -/
theorem c_MD_back (Ω : Om) (M : Mem) (n : Int32) (K : Ka) (h1 : n < 0 ∨ mI M 12 0 2 < n → K (some (vI (-1))) M) (h2 : ¬ n < 0 → n ≤ mI M 12 0 2 → K (some (vI (mI M 12 0 2 - n))) (sI M 12 0 2 (mI M 12 0 2 - n))) : CallS Ω true m_MD_back [vR (some (12,0)), vI n] M K := by
  refine call_go (hJL rfl) (Nat.le_of_ble_eq_true rfl) (go_wp ok_MD_back [] 50 _ _ _ _ _ _ ?_)
  refine And.intro (fun h => ?_) (fun h => And.intro (fun g => ?_) (fun g => ?_))
  · exact h1 (Or.inl h)
  · conv => whnf
    rw [mI_sI, if_pos ⟨rfl, rfl, rfl⟩]
    exact h2 h g
  · exact h1 (Or.inr (Int32.not_le.mp g))
