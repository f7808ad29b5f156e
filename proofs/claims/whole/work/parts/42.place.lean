/-! SMALL ANSWERS -/
theorem c_WH_place (Ω : Om) (M : Mem) (K : Ka) (h : K (some (vI (mI M 11 0 2))) M) : CallS Ω true m_WH_place [vR (some (11,0))] M K := by
  refine call_go (hJL rfl) (Nat.le_of_ble_eq_true rfl) (go_wp ok_WH_place [] 50 _ _ _ _ _ _ ?_)
  conv => whnf
  first
    | exact ⟨Or.inl rfl, h⟩
    | exact h
theorem c_MD_place (Ω : Om) (M : Mem) (K : Ka) (h : K (some (vI (mI M 12 0 17))) M) : CallS Ω true m_MD_place [vR (some (12,0))] M K := by
  refine call_go (hJL rfl) (Nat.le_of_ble_eq_true rfl) (go_wp ok_MD_place [] 50 _ _ _ _ _ _ ?_)
  conv => whnf
  first
    | exact ⟨Or.inl rfl, h⟩
    | exact h
