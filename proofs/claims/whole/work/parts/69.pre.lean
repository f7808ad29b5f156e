/-! WINGS ASKED: the beginnings of their methods -/
theorem pr_solve {Ω : Om} {K : Ka} {M : Mem} {nt : Nat} {o : Option Nat} (a1 : HdC M nt o) (x v s on : Int32) (hY : ∀ t w, RwY M o x t w → GoS Ω true m_WH_solve K 28 [some (vR (some (11, 0))), some (vI x), some (vI v), some (vI s), some (vI on), some (vR (some (7, t))), some (vR (some (10, 4 * t + w)))] [] M 0 0) (hN : RwN M o x → K (some (vI (-1))) M) (hI : RwN M o x ∨ ∃ t w, RwY M o x t w) : CallS Ω true m_WH_solve [vR (some (11, 0)), vI x, vI v, vI s, vI on] M K := by
  refine call_go (hJL rfl) (Nat.le_of_ble_eq_true rfl) (go_wp ok_WH_solve [28] 250 _ _ _ _ _ _ ?_)
  conv => whnf
  rw [a1.2.2.1]
  refine cl_use (fun K h => c_textOfH Ω M nt o K a1 h) trivial ?_
  conv => whnf
  rcases hI with hN' | ⟨t, w, hY'⟩
  · refine cl_use (fun K h => c_wingOfN' Ω M o x K hN' h) trivial ?_
    cases o with
    | none => exact hN hN'
    | some t => exact hN hN'
  · obtain rfl := hY'.1
    refine cl_use (fun K h => c_wingOfY Ω M t w (some t) x K hY' h) trivial ?_
    conv => whnf
    exact hY t w hY'
theorem pr_ground {Ω : Om} {K : Ka} {M : Mem} {nt : Nat} {o : Option Nat} (a1 : HdC M nt o) (x v s h : Int32) (hY : ∀ t w, RwY M o x t w → GoS Ω true m_WH_ground K 28 [some (vR (some (11, 0))), some (vI x), some (vI v), some (vI s), some (vI h), some (vR (some (7, t))), some (vR (some (10, 4 * t + w)))] [] M 0 0) (hN : RwN M o x → K (some (vI (-1))) M) (hI : RwN M o x ∨ ∃ t w, RwY M o x t w) : CallS Ω true m_WH_ground [vR (some (11, 0)), vI x, vI v, vI s, vI h] M K := by
  refine call_go (hJL rfl) (Nat.le_of_ble_eq_true rfl) (go_wp ok_WH_ground [28] 250 _ _ _ _ _ _ ?_)
  conv => whnf
  rw [a1.2.2.1]
  refine cl_use (fun K h => c_textOfH Ω M nt o K a1 h) trivial ?_
  conv => whnf
  rcases hI with hN' | ⟨t, w, hY'⟩
  · refine cl_use (fun K h => c_wingOfN' Ω M o x K hN' h) trivial ?_
    cases o with
    | none => exact hN hN'
    | some t => exact hN hN'
  · obtain rfl := hY'.1
    refine cl_use (fun K h => c_wingOfY Ω M t w (some t) x K hY' h) trivial ?_
    conv => whnf
    exact hY t w hY'
theorem pr_curve {Ω : Om} {K : Ka} {M : Mem} {nt : Nat} {o : Option Nat} (a1 : HdC M nt o) (x v a b : Int32) (hY : ∀ t w, RwY M o x t w → GoS Ω true m_WH_curve K 28 [some (vR (some (11, 0))), some (vI x), some (vI v), some (vI a), some (vI b), some (vR (some (7, t))), some (vR (some (10, 4 * t + w)))] [] M 0 0) (hN : RwN M o x → K (some (vI (-101))) M) (hI : RwN M o x ∨ ∃ t w, RwY M o x t w) : CallS Ω true m_WH_curve [vR (some (11, 0)), vI x, vI v, vI a, vI b] M K := by
  refine call_go (hJL rfl) (Nat.le_of_ble_eq_true rfl) (go_wp ok_WH_curve [28] 250 _ _ _ _ _ _ ?_)
  conv => whnf
  rw [a1.2.2.1]
  refine cl_use (fun K h => c_textOfH Ω M nt o K a1 h) trivial ?_
  conv => whnf
  rcases hI with hN' | ⟨t, w, hY'⟩
  · refine cl_use (fun K h => c_wingOfN' Ω M o x K hN' h) trivial ?_
    cases o with
    | none => exact hN hN'
    | some t => exact hN hN'
  · obtain rfl := hY'.1
    refine cl_use (fun K h => c_wingOfY Ω M t w (some t) x K hY' h) trivial ?_
    conv => whnf
    exact hY t w hY'
theorem pr_trims {Ω : Om} {K : Ka} {M : Mem} {nt : Nat} {o : Option Nat} (a1 : HdC M nt o) (x v wt : Int32) (hY : ∀ t w, RwY M o x t w → GoS Ω true m_WH_trims K 28 [some (vR (some (11, 0))), some (vI x), some (vI v), some (vI wt), some (vR (some (7, t))), some (vR (some (10, 4 * t + w)))] [] M 0 0) (hN : RwN M o x → K (some (vI (-1))) M) (hI : RwN M o x ∨ ∃ t w, RwY M o x t w) : CallS Ω true m_WH_trims [vR (some (11, 0)), vI x, vI v, vI wt] M K := by
  refine call_go (hJL rfl) (Nat.le_of_ble_eq_true rfl) (go_wp ok_WH_trims [28] 250 _ _ _ _ _ _ ?_)
  conv => whnf
  rw [a1.2.2.1]
  refine cl_use (fun K h => c_textOfH Ω M nt o K a1 h) trivial ?_
  conv => whnf
  rcases hI with hN' | ⟨t, w, hY'⟩
  · refine cl_use (fun K h => c_wingOfN' Ω M o x K hN' h) trivial ?_
    cases o with
    | none => exact hN hN'
    | some t => exact hN hN'
  · obtain rfl := hY'.1
    refine cl_use (fun K h => c_wingOfY Ω M t w (some t) x K hY' h) trivial ?_
    conv => whnf
    exact hY t w hY'
theorem pr_trim {Ω : Om} {K : Ka} {M : Mem} {nt : Nat} {o : Option Nat} (a1 : HdC M nt o) (x v wt i : Int32) (hY : ∀ t w, RwY M o x t w → GoS Ω true m_WH_trim K 28 [some (vR (some (11, 0))), some (vI x), some (vI v), some (vI wt), some (vI i), some (vR (some (7, t))), some (vR (some (10, 4 * t + w))), none] [] M 0 0) (hN : RwN M o x → K (some (vI (-101))) M) (hI : RwN M o x ∨ ∃ t w, RwY M o x t w) : CallS Ω true m_WH_trim [vR (some (11, 0)), vI x, vI v, vI wt, vI i] M K := by
  refine call_go (hJL rfl) (Nat.le_of_ble_eq_true rfl) (go_wp ok_WH_trim [28] 250 _ _ _ _ _ _ ?_)
  conv => whnf
  rw [a1.2.2.1]
  refine cl_use (fun K h => c_textOfH Ω M nt o K a1 h) trivial ?_
  conv => whnf
  rcases hI with hN' | ⟨t, w, hY'⟩
  · refine cl_use (fun K h => c_wingOfN' Ω M o x K hN' h) trivial ?_
    cases o with
    | none => exact hN hN'
    | some t => exact hN hN'
  · obtain rfl := hY'.1
    refine cl_use (fun K h => c_wingOfY Ω M t w (some t) x K hY' h) trivial ?_
    conv => whnf
    exact hY t w hY'
theorem pr_stays {Ω : Om} {K : Ka} {M : Mem} {nt : Nat} {o : Option Nat} (a1 : HdC M nt o) (x v wt i : Int32) (hY : ∀ t w, RwY M o x t w → GoS Ω true m_WH_stays K 28 [some (vR (some (11, 0))), some (vI x), some (vI v), some (vI wt), some (vI i), some (vR (some (7, t))), some (vR (some (10, 4 * t + w))), none] [] M 0 0) (hN : RwN M o x → K (some (vI (-1))) M) (hI : RwN M o x ∨ ∃ t w, RwY M o x t w) : CallS Ω true m_WH_stays [vR (some (11, 0)), vI x, vI v, vI wt, vI i] M K := by
  refine call_go (hJL rfl) (Nat.le_of_ble_eq_true rfl) (go_wp ok_WH_stays [28] 250 _ _ _ _ _ _ ?_)
  conv => whnf
  rw [a1.2.2.1]
  refine cl_use (fun K h => c_textOfH Ω M nt o K a1 h) trivial ?_
  conv => whnf
  rcases hI with hN' | ⟨t, w, hY'⟩
  · refine cl_use (fun K h => c_wingOfN' Ω M o x K hN' h) trivial ?_
    cases o with
    | none => exact hN hN'
    | some t => exact hN hN'
  · obtain rfl := hY'.1
    refine cl_use (fun K h => c_wingOfY Ω M t w (some t) x K hY' h) trivial ?_
    conv => whnf
    exact hY t w hY'
theorem pr_fold {Ω : Om} {K : Ka} {M : Mem} {nt : Nat} {o : Option Nat} (a1 : HdC M nt o) (x s : Int32) (hY : ∀ t w, RwY M o x t w → GoS Ω true m_WH_fold K 25 [some (vR (some (11, 0))), some (vI x), some (vI s), some (vR (some (7, t))), some (vR (some (10, 4 * t + w)))] [] M 0 0) (hN : RwN M o x → K (some (vI (-1))) M) (hI : RwN M o x ∨ ∃ t w, RwY M o x t w) : CallS Ω true m_WH_fold [vR (some (11, 0)), vI x, vI s] M K := by
  refine call_go (hJL rfl) (Nat.le_of_ble_eq_true rfl) (go_wp ok_WH_fold [25] 250 _ _ _ _ _ _ ?_)
  conv => whnf
  rw [a1.2.2.1]
  refine cl_use (fun K h => c_textOfH Ω M nt o K a1 h) trivial ?_
  conv => whnf
  rcases hI with hN' | ⟨t, w, hY'⟩
  · refine cl_use (fun K h => c_wingOfN' Ω M o x K hN' h) trivial ?_
    cases o with
    | none => exact hN hN'
    | some t => exact hN hN'
  · obtain rfl := hY'.1
    refine cl_use (fun K h => c_wingOfY Ω M t w (some t) x K hY' h) trivial ?_
    conv => whnf
    exact hY t w hY'
theorem pr_shakes {Ω : Om} {K : Ka} {M : Mem} {nt : Nat} {o : Option Nat} (a1 : HdC M nt o) (x v s : Int32) (hY : ∀ t w, RwY M o x t w → GoS Ω true m_WH_shakes K 28 [some (vR (some (11, 0))), some (vI x), some (vI v), some (vI s), some (vR (some (7, t))), some (vR (some (10, 4 * t + w)))] [] M 0 0) (hN : RwN M o x → K (some (vI (-1))) M) (hI : RwN M o x ∨ ∃ t w, RwY M o x t w) : CallS Ω true m_WH_shakes [vR (some (11, 0)), vI x, vI v, vI s] M K := by
  refine call_go (hJL rfl) (Nat.le_of_ble_eq_true rfl) (go_wp ok_WH_shakes [28] 250 _ _ _ _ _ _ ?_)
  conv => whnf
  rw [a1.2.2.1]
  refine cl_use (fun K h => c_textOfH Ω M nt o K a1 h) trivial ?_
  conv => whnf
  rcases hI with hN' | ⟨t, w, hY'⟩
  · refine cl_use (fun K h => c_wingOfN' Ω M o x K hN' h) trivial ?_
    cases o with
    | none => exact hN hN'
    | some t => exact hN hN'
  · obtain rfl := hY'.1
    refine cl_use (fun K h => c_wingOfY Ω M t w (some t) x K hY' h) trivial ?_
    conv => whnf
    exact hY t w hY'
theorem pr_shake {Ω : Om} {K : Ka} {M : Mem} {nt : Nat} {o : Option Nat} (a1 : HdC M nt o) (x s : Int32) (hY : ∀ t w, RwY M o x t w → GoS Ω true m_WH_shake K 25 [some (vR (some (11, 0))), some (vI x), some (vI s), some (vR (some (7, t))), some (vR (some (10, 4 * t + w))), none] [] M 0 0) (hN : RwN M o x → K (some (vI (-1))) M) (hI : RwN M o x ∨ ∃ t w, RwY M o x t w) : CallS Ω true m_WH_shake [vR (some (11, 0)), vI x, vI s] M K := by
  refine call_go (hJL rfl) (Nat.le_of_ble_eq_true rfl) (go_wp ok_WH_shake [25] 250 _ _ _ _ _ _ ?_)
  conv => whnf
  rw [a1.2.2.1]
  refine cl_use (fun K h => c_textOfH Ω M nt o K a1 h) trivial ?_
  conv => whnf
  rcases hI with hN' | ⟨t, w, hY'⟩
  · refine cl_use (fun K h => c_wingOfN' Ω M o x K hN' h) trivial ?_
    cases o with
    | none => exact hN hN'
    | some t => exact hN hN'
  · obtain rfl := hY'.1
    refine cl_use (fun K h => c_wingOfY Ω M t w (some t) x K hY' h) trivial ?_
    conv => whnf
    exact hY t w hY'
theorem pr_best {Ω : Om} {K : Ka} {M : Mem} {nt : Nat} {o : Option Nat} (a1 : HdC M nt o) (x v s st le : Int32) (hY : ∀ t w, RwY M o x t w → GoS Ω true m_WH_best K 28 [some (vR (some (11, 0))), some (vI x), some (vI v), some (vI s), some (vI st), some (vI le), some (vR (some (7, t))), some (vR (some (10, 4 * t + w)))] [] M 0 0) (hN : RwN M o x → K (some (vJ (-1000000000000))) M) (hI : RwN M o x ∨ ∃ t w, RwY M o x t w) : CallS Ω true m_WH_best [vR (some (11, 0)), vI x, vI v, vI s, vI st, vI le] M K := by
  refine call_go (hJL rfl) (Nat.le_of_ble_eq_true rfl) (go_wp ok_WH_best [28] 250 _ _ _ _ _ _ ?_)
  conv => whnf
  rw [a1.2.2.1]
  refine cl_use (fun K h => c_textOfH Ω M nt o K a1 h) trivial ?_
  conv => whnf
  rcases hI with hN' | ⟨t, w, hY'⟩
  · refine cl_use (fun K h => c_wingOfN' Ω M o x K hN' h) trivial ?_
    cases o with
    | none => exact hN hN'
    | some t => exact hN hN'
  · obtain rfl := hY'.1
    refine cl_use (fun K h => c_wingOfY Ω M t w (some t) x K hY' h) trivial ?_
    conv => whnf
    exact hY t w hY'
