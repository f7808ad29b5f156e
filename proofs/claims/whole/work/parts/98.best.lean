/-! BEST, the class's: a strip turned -/
theorem c_turnStrip (Ω : Om) (M : Mem) (i : Nat) (x : Int32) (K : Ka) (hi : i < 10) (h : K none (sI (sJ M 39 0 i (mJ M 39 0 i + (x - mI M 38 0 i).toInt64)) 38 0 i x)) : CallS Ω true m_Solver_turnStrip [vR (some (6, 0)), vI (nI i), vI x] M K := by
  refine call_go (hJL rfl) (Nat.le_of_ble_eq_true rfl) (go_wp ok_Solver_turnStrip [] 250 _ _ _ _ _ _ ?_)
  refine And.intro (fun q => absurd q (nI_pos (by omega))) (fun _ => And.intro (fun q => absurd q (nI_ge (b := 10) hi (by decide))) (fun _ => ?_))
  conv => whnf
  refine And.intro (vp_in_nI (by omega) (by decide)) ?_
  conv => whnf
  refine And.intro (vp_in_nI (by omega) (by decide)) ?_
  rw [nI_clamp (by omega)]
  conv => whnf
  refine And.intro (vp_in_nI (by omega) (by decide)) ?_
  conv => whnf
  refine And.intro (vp_in_nI (by omega) (by decide)) ?_
  rw [nI_clamp (by omega)]
  exact h
