/-! TURNS, VI: right, annul -/
def rgS (l w : Int32) : Int64 := l.toInt64 * 1000 / (1000 + w.toInt64)
theorem rg_ne {w : Int32} (h : 0 ≤ w.toInt ∧ w.toInt ≤ 500) : ¬ (1000 : Int64) + w.toInt64 = 0 := by
  intro e
  have := congrArg Int64.toInt e
  rw [J_add (by rw [I_l, show (1000 : Int64).toInt = 1000 from rfl]; omega), I_l, show (1000 : Int64).toInt = 1000 from rfl, show (0 : Int64).toInt = 0 from rfl] at this
  omega
theorem c_putRight (Ω : Om) (M : Mem) (r : Nat) (l w : Int32) (K : Ka) (hr : r < 60) (hl : mI M 34 0 r = l) (hw : mI M 35 0 r = w) (hw2 : 0 ≤ w.toInt ∧ w.toInt ≤ 500) (h : K (some (vJ (rgS l w))) M) : CallS Ω true m_Runs_putRight [vR (some (5, 0)), vI (nI r)] M K := by
  refine call_go (hJL rfl) (Nat.le_of_ble_eq_true rfl) (go_wp ok_Runs_putRight [] 250 _ _ _ _ _ _ ?_)
  refine And.intro (fun a => absurd a (nI_pos (by omega))) (fun _ => And.intro (fun _ => ?_) (fun a => absurd (show nI r < (60 : Int32) from nI_lt (b := 60) hr (by decide)) a))
  conv => whnf
  refine And.intro (vp_in_nI (by omega) (by decide)) ?_
  conv => whnf
  refine And.intro (vp_in_nI (by omega) (by decide)) ?_
  rw [nI_clamp (by omega), hl, hw]
  refine cl_use (fun K h => c_WH_over Ω M _ _ K h) trivial ?_
  rw [ovS, if_neg (rg_ne hw2)]
  exact h
set_option maxRecDepth 8000 in
theorem c_rightOf (Ω : Om) (M : Mem) (r : Nat) (l w : Int32) (K : Ka) (hr : r < 60) (hl : mI M 138 0 r = l) (hw : mI M 139 0 r = w) (hw2 : 0 ≤ w.toInt ∧ w.toInt ≤ 500) (h : K (some (vI (rgS l w).toInt32)) M) : CallS Ω true m_MD_rightOf [vR (some (12, 0)), vI (nI r)] M K := by
  refine call_go (hJL rfl) (Nat.le_of_ble_eq_true rfl) (go_wp ok_MD_rightOf [] 250 _ _ _ _ _ _ ?_)
  conv => whnf
  refine And.intro (vp_in_nI (by omega) (by decide)) ?_
  conv => whnf
  refine And.intro (vp_in_nI (by omega) (by decide)) ?_
  rw [nI_clamp (by omega), hl, hw]
  refine And.intro (rg_ne hw2) ?_
  exact h
theorem RnR.run {M : Mem} {r : Nat} (h : RnR M r) (h30 : mI M 134 0 r = -1) : mI M 31 0 r = mI M 135 0 r ∧ mI M 32 0 r = mI M 136 0 r ∧ mI M 33 0 r = mI M 137 0 r ∧ mI M 34 0 r = mI M 138 0 r ∧ mI M 35 0 r = mI M 139 0 r ∧
    (∃ w, w < 4 ∧ mI M 135 0 r = nI w) ∧ (1 ≤ (mI M 136 0 r).toInt ∧ (mI M 136 0 r).toInt ≤ 40) ∧ (-30 ≤ (mI M 137 0 r).toInt ∧ (mI M 137 0 r).toInt ≤ 30) ∧ (-1000000 ≤ (mI M 138 0 r).toInt ∧ (mI M 138 0 r).toInt ≤ 1000000) ∧ 0 ≤ (mI M 139 0 r).toInt ∧ (mI M 139 0 r).toInt ≤ 500 := by
  rcases h.2 with ⟨k, hk, e⟩ | ⟨-, e⟩
  · rw [h30] at e; exact absurd e.symm (nI_nm1 (by omega))
  · exact e
set_option maxRecDepth 8000 in
theorem t_right (Ω : Om) (M : Mem) (x : Int32) (h : Inv M) : Turn Ω tyI m_WH_right m_MD_right [vI x] M := by
  obtain ⟨nt, o, a1, a2, a3, a4, a5, a6, a7, a8, ⟨nr, hr, d1, d2, d3⟩, a10⟩ := id h
  by_cases hc : ∃ r, r < nr ∧ x = nI r ∧ mI M 134 0 r = -1
  · obtain ⟨r, hlt, rfl, e134⟩ := hc
    have hR := d3 r hlt
    obtain ⟨f1, f2, f3, f4, f5, -, -, -, -, fw⟩ := hR.run e134
    refine turn_pure h (some (vI (rgS (mI M 138 0 r) (mI M 139 0 r)).toInt32)) ⟨_, rfl⟩ (fun K hK => ?_) (fun K hK => ?_)
    · refine call_go (hJL rfl) (Nat.le_of_ble_eq_true rfl) (go_wp ok_WH_right [] 250 _ _ _ _ _ _ ?_)
      conv => whnf
      refine cl_use (fun K h => c_isRun Ω M nr (nI r) K hr d1 (fun _ _ _ _ => h) (fun q => absurd (hR.1.trans e134) (q r hlt rfl))) trivial ?_
      refine And.intro (fun a => absurd a (by decide)) (fun _ => ?_)
      conv => whnf
      refine cl_use (fun K h => c_putRight Ω M r _ _ K (by omega) f4 f5 fw h) trivial ?_
      exact hK
    · refine call_go (hJL rfl) (Nat.le_of_ble_eq_true rfl) (go_wp ok_MD_right [] 250 _ _ _ _ _ _ ?_)
      conv => whnf
      refine cl_use (fun K h => c_MD_isRun Ω M nr (nI r) K hr d2 (fun _ _ _ _ => h) (fun q => absurd e134 (q r hlt rfl))) trivial ?_
      refine And.intro (fun a => absurd a (by decide)) (fun _ => ?_)
      conv => whnf
      refine cl_use (fun K h => c_rightOf Ω M r _ _ K (by omega) rfl rfl fw h) trivial ?_
      exact hK
  · refine turn_pure h (some (vI (-1000000000))) ⟨_, rfl⟩ (fun K hK => ?_) (fun K hK => ?_)
    · refine call_go (hJL rfl) (Nat.le_of_ble_eq_true rfl) (go_wp ok_WH_right [] 250 _ _ _ _ _ _ ?_)
      conv => whnf
      refine cl_use (fun K h => c_isRun Ω M nr x K hr d1 (fun r hlt e q => absurd ⟨r, hlt, e, (d3 r hlt).1.symm.trans q⟩ hc) (fun _ => h)) trivial ?_
      exact And.intro (fun _ => hK) (fun a => absurd rfl a)
    · refine call_go (hJL rfl) (Nat.le_of_ble_eq_true rfl) (go_wp ok_MD_right [] 250 _ _ _ _ _ _ ?_)
      conv => whnf
      refine cl_use (fun K h => c_MD_isRun Ω M nr x K hr d2 (fun r hlt e q => absurd ⟨r, hlt, e, q⟩ hc) (fun _ => h)) trivial ?_
      exact And.intro (fun _ => hK) (fun a => absurd rfl a)
set_option maxRecDepth 8000 in
theorem t_annul (Ω : Om) (M : Mem) (x : Int32) (h : Inv M) : Turn Ω tyI m_WH_annul m_MD_annul [vI x] M := by
  obtain ⟨nt, o, a1, a2, a3, a4, a5, a6, a7, a8, ⟨nr, hr, d1, d2, d3⟩, a10⟩ := id h
  by_cases hc : (∃ r, r < nr ∧ x = nI r ∧ mI M 134 0 r = -1) ∧ nr < 60
  · obtain ⟨⟨r, hlt, rfl, e134⟩, hlt60⟩ := hc
    have hR := d3 r hlt
    refine ⟨fun q M1 => q = some (vI (nI nr)) ∧ M1 = sI (sI M 30 0 nr (nI r)) 5 0 8 (nI (nr + 1)), ?_, ?_⟩
    · refine call_go (hJL rfl) (Nat.le_of_ble_eq_true rfl) (go_wp ok_WH_annul [] 250 _ _ _ _ _ _ ?_)
      conv => whnf
      refine cl_use (fun K h => c_isRun Ω M nr (nI r) K hr d1 (fun _ _ _ _ => h) (fun q => absurd (hR.1.trans e134) (q r hlt rfl))) trivial ?_
      refine And.intro (fun a => absurd a (by decide)) (fun _ => ?_)
      conv => whnf
      refine cl_use (r := some (vI (nI nr))) (M1 := sI (sI M 30 0 nr (nI r)) 5 0 8 (nI (nr + 1))) (fun K h => ?_) trivial ⟨rfl, rfl⟩
      refine call_go (hJL rfl) (Nat.le_of_ble_eq_true rfl) (go_wp ok_Runs_addVoid [] 250 _ _ _ _ _ _ ?_)
      conv => whnf
      rw [d1]
      refine And.intro (fun _ => ?_) (fun a => absurd (show nI nr < (60 : Int32) from nI_lt (b := 60) hlt60 (by decide)) a)
      conv => whnf
      rw [d1]
      refine And.intro (vp_in_nI (by omega) (by decide)) ?_
      rw [nI_clamp (by omega)]
      conv => whnf
      rw [show mI (sI M 30 0 nr (nI r)) 5 0 8 = nI nr from d1, nI_1, mI_sI, if_pos ⟨rfl, rfl, rfl⟩, nI_pred]
      exact h
    · rintro q M1 ⟨rfl, rfl⟩
      refine ⟨⟨_, rfl⟩, fun _ => rfl, ?_⟩
      refine call_go (hJL rfl) (Nat.le_of_ble_eq_true rfl) (go_wp ok_MD_annul [] 250 _ _ _ _ _ _ ?_)
      conv => whnf
      have e97 : mI (sI (sI M 30 0 nr (nI r)) 5 0 8 (nI (nr + 1))) 12 0 97 = nI nr := d2
      rw [e97]
      refine And.intro (fun a => ?_) (fun _ => ?_)
      · rw [show (60 : Int32) = nI 60 from rfl, nI_eq (by omega) (by omega)] at a; omega
      conv => whnf
      refine cl_use (fun K h => c_MD_isRun Ω _ nr (nI r) K hr e97 (fun _ _ _ _ => h) (fun q => absurd e134 (q r hlt rfl))) trivial ?_
      refine And.intro (fun _ => ?_) (fun a => absurd a (by decide))
      conv => whnf
      rw [e97]
      refine And.intro (vp_in_nI (by omega) (by decide)) ?_
      rw [nI_clamp (by omega)]
      conv => whnf
      rw [show mI (sI (sI (sI M 30 0 nr (nI r)) 5 0 8 (nI (nr + 1))) 134 0 nr (nI r)) 12 0 97 = nI nr from d2, nI_1, mI_sI, if_pos ⟨rfl, rfl, rfl⟩, nI_pred]
      have hU : Un (wKF [30, 134] [(5, 8), (12, 97)]) M (sI (sI (sI (sI M 30 0 nr (nI r)) 5 0 8 (nI (nr + 1))) 134 0 nr (nI r)) 12 0 97 (nI (nr + 1))) := (((Un.rfl.pI rfl).pI rfl).pI rfl).pI rfl
      generalize hM2 : sI (sI (sI (sI M 30 0 nr (nI r)) 5 0 8 (nI (nr + 1))) 134 0 nr (nI r)) 12 0 97 (nI (nr + 1)) = M2 at hU
      have g1 : mI M2 5 0 8 = nI (nr + 1) := by rw [← hM2, mI_sI, if_neg (fun q => absurd q.1 (by decide)), mI_sI, if_neg (fun q => absurd q.1 (by decide)), mI_sI, if_pos ⟨rfl, rfl, rfl⟩]
      have g2 : mI M2 12 0 97 = nI (nr + 1) := by rw [← hM2, mI_sI, if_pos ⟨rfl, rfl, rfl⟩]
      have g3 : ∀ j, mI M2 30 0 j = if j = nr then nI r else mI M 30 0 j := fun j => by
        rw [← hM2, mI_sI, if_neg (fun q => absurd q.1 (by decide)), mI_sI, if_neg (fun q => absurd q.1 (by decide)), mI_sI, if_neg (fun q => absurd q.1 (by decide)), mI_sI]
        by_cases e : j = nr
        · rw [if_pos ⟨rfl, rfl, e⟩, if_pos e]
        · rw [if_neg (fun q => e q.2.2), if_neg e]
      have g4 : ∀ j, mI M2 134 0 j = if j = nr then nI r else mI M 134 0 j := fun j => by
        rw [← hM2, mI_sI, if_neg (fun q => absurd q.1 (by decide)), mI_sI]
        by_cases e : j = nr
        · rw [if_pos ⟨rfl, rfl, e⟩, if_pos e]
        · rw [if_neg (fun q => e q.2.2), if_neg e, mI_sI, if_neg (fun q => absurd q.1 (by decide)), mI_sI, if_neg (fun q => absurd q.1 (by decide))]
      clear hM2
      refine ⟨rfl, ⟨nt, o, a1.un hU rfl rfl, a2.un hU rfl rfl, ?_, a4.un hU rfl rfl (fun _ => rfl) (fun _ => rfl), a5.un hU (fun _ => rfl) (fun _ => rfl), Inv.text a6 hU ?_ ?_, a7.un hU (fun _ => rfl) (fun _ => rfl) (fun _ => rfl), a8.un hU (fun _ => rfl) (fun _ => rfl), ⟨nr + 1, by omega, g1, g2, fun j hj => ?_⟩, a10.un hU (fun _ => rfl) (fun _ => rfl) (fun _ => rfl) (fun _ => rfl) (fun _ => rfl)⟩, fun s => hU.I rfl⟩
      · rw [hU.I (k := 11) (s := 2) rfl, hU.I (k := 12) (s := 17) rfl]; exact a3
      · intro k hk i s
        simp only [List.mem_cons, List.not_mem_nil, or_false] at hk
        rcases hk with rfl | rfl <;> exact ⟨rfl, fun _ => rfl⟩
      · intro q hq i
        simp only [List.mem_cons, List.not_mem_nil, or_false] at hq
        rcases hq with rfl | rfl <;> exact ⟨rfl, fun _ => rfl⟩
      · unfold RnR
        rw [g3, g4, hU.I (k := 31) rfl, hU.I (k := 32) rfl, hU.I (k := 33) rfl, hU.I (k := 34) rfl, hU.I (k := 35) rfl, hU.I (k := 135) rfl, hU.I (k := 136) rfl, hU.I (k := 137) rfl, hU.I (k := 138) rfl, hU.I (k := 139) rfl]
        by_cases e : j = nr
        · rw [if_pos e, if_pos e]
          exact ⟨rfl, Or.inl ⟨r, by omega, rfl⟩⟩
        · rw [if_neg e, if_neg e]
          exact d3 j (by omega)
  · refine turn_pure h (some (vI (-1))) ⟨_, rfl⟩ (fun K hK => ?_) (fun K hK => ?_)
    · refine call_go (hJL rfl) (Nat.le_of_ble_eq_true rfl) (go_wp ok_WH_annul [] 250 _ _ _ _ _ _ ?_)
      conv => whnf
      by_cases hc2 : ∃ r, r < nr ∧ x = nI r ∧ mI M 134 0 r = -1
      · obtain ⟨r, hlt, rfl, e134⟩ := id hc2
        have hfull : nr = 60 := Decidable.byContradiction (fun e => hc ⟨hc2, by omega⟩)
        refine cl_use (fun K h => c_isRun Ω M nr (nI r) K hr d1 (fun _ _ _ _ => h) (fun q => absurd ((d3 r hlt).1.trans e134) (q r hlt rfl))) trivial ?_
        refine And.intro (fun a => absurd a (by decide)) (fun _ => ?_)
        conv => whnf
        refine cl_use (r := some (vI (-1))) (M1 := M) (fun K h => ?_) trivial hK
        refine call_go (hJL rfl) (Nat.le_of_ble_eq_true rfl) (go_wp ok_Runs_addVoid [] 250 _ _ _ _ _ _ ?_)
        conv => whnf
        rw [d1, hfull]
        exact And.intro (fun a => absurd a (by decide)) (fun _ => h)
      · refine cl_use (fun K h => c_isRun Ω M nr x K hr d1 (fun r hlt e q => absurd ⟨r, hlt, e, (d3 r hlt).1.symm.trans q⟩ hc2) (fun _ => h)) trivial ?_
        exact And.intro (fun _ => hK) (fun a => absurd rfl a)
    · refine call_go (hJL rfl) (Nat.le_of_ble_eq_true rfl) (go_wp ok_MD_annul [] 250 _ _ _ _ _ _ ?_)
      conv => whnf
      rw [d2]
      refine And.intro (fun _ => hK) (fun z0 => ?_)
      have hlt60 : nr < 60 := by
        refine Decidable.byContradiction (fun e => z0 ?_)
        rw [show nr = 60 by omega]; rfl
      conv => whnf
      refine cl_use (fun K h => c_MD_isRun Ω M nr x K hr d2 (fun r hlt e q => absurd ⟨⟨r, hlt, e, q⟩, hlt60⟩ hc) (fun _ => h)) trivial ?_
      exact And.intro (fun a => absurd rfl a) (fun _ => hK)
