/-! BEST, the class's: a strip turned -/
theorem c_turnStrip (Ω : Om) (M : Mem) (i : Nat) (x : Int32) (K : Ka) (hi : i < 10) (h : K none (sI (sJ M 39 0 i (mJ M 39 0 i + (x - mI M 38 0 i).toInt64)) 38 0 i x)) : CallS Ω true m_Solver_turnStrip [vR (some (6, 0)), vI (nI i), vI x] M K := by
  refine call_go (hJL rfl) (Nat.le_of_ble_eq_true rfl) (go_wp ok_Solver_turnStrip [] 250 _ _ _ _ _ _ ?_)
  refine And.intro (fun q => absurd q (nI_pos (by omega))) (fun _ => And.intro (fun q => absurd q (nI_ge (b := 10) hi (by decide))) (fun _ => ?_))
  conv => whnf
  refine And.intro (vp_in_nI (by omega) (by decide)) ?_
  conv => whnf
  refine And.intro (vp_in_nI (by omega) (by decide)) ?_
  rw [nI_clamp (by omega)]
  conv => whnf
  refine And.intro (vp_in_nI (by omega) (by decide)) ?_
  conv => whnf
  refine And.intro (vp_in_nI (by omega) (by decide)) ?_
  rw [nI_clamp (by omega)]
  exact h
/-- the angle of a strip under tried twists -/
def bsT (T : Tx) (w : Nat) (s : Int32) (ha tw : Nat → Int32) (i : Nat) : Int32 := s + tw i + (if T 96 (10 * w + i) = -1 then 0 else ha (T 96 (10 * w + i)).toNatClampNeg) + 0
def evB (T : Tx) (w : Nat) (v s : Int32) (ha tw : Nat → Int32) : Ev := (T, w, v, nI 0, bsT T w s ha tw, fun _ => 0)
theorem evB_ok {T : Tx} {w : Nat} {v s : Int32} {ha tw : Nat → Int32} (hW : WgOK T w) : EvOK (evB T w v s ha tw) := ⟨hW, 0, by decide, rfl⟩
/-- the drag under tried twists -/
def bdS (T : Tx) (w : Nat) (v s : Int32) (ha tw : Nat → Int32) : Int64 := drS T w (wN T w) v (rnG (evB T w v s ha tw) z0) (dnS (evB T w v s ha tw) (rnG (evB T w v s ha tw) z0)) (anS (evB T w v s ha tw) (rnG (evB T w v s ha tw) z0))
/-- is a bar against it -/
def bbS (T : Tx) (w : Nat) (v s : Int32) (ha tw : Nat → Int32) (Ls : Nat → List Lt) (nb : Nat) : Bool := (fbS Ls nb (vrS (wN T w) v (fun i => T 92 (10 * w + i)) tw (rnG (evB T w v s ha tw) z0) (dnS (evB T w v s ha tw) (rnG (evB T w v s ha tw) z0)) (bnS (evB T w v s ha tw) (rnG (evB T w v s ha tw) z0)) (anS (evB T w v s ha tw) (rnG (evB T w v s ha tw) z0))) (wN T w) 0).isSome
/-- is it less than the least so far -/
def leB (x : Int64) : Option (Int64 × (Nat → Int32)) → Bool
  | none => true
  | some p => decide (x < p.1)
/-- a way judged -/
def juS (T : Tx) (w : Nat) (v s : Int32) (ha : Nat → Int32) (Ls : Nat → List Lt) (nb : Nat) (lv : Int64) (tw : Nat → Int32) (b : Option (Int64 × (Nat → Int32))) : Option (Int64 × (Nat → Int32)) :=
  if ((!(decide (rnR (evB T w v s ha tw) z0 = -2)) && decide (lv ≤ liS (wN T w) v (rnG (evB T w v s ha tw) z0))) && (!(bbS T w v s ha tw Ls nb) && leB (bdS T w v s ha tw) b)) = true then some (bdS T w v s ha tw, tw) else b
