set_option maxHeartbeats 4000000 in
theorem c_Runs_init (Ω : Om) (M : Mem) (op : List (Nat × Nat)) (K : Ka) (hI : IV M ((5, 0) :: op)) (hz : Zer M 5 0) (hc : mC M 30 = 0 ∧ mC M 31 = 0 ∧ mC M 32 = 0 ∧ mC M 33 = 0 ∧ mC M 34 = 0 ∧ mC M 35 = 0 ∧ mC M 36 = 0) (hK : ∀ M', IV M' op → Cnt [36, 35, 34, 33, 32, 31, 30] M M' → Unch [5, 30, 31, 32, 33, 34, 35, 36] M M' → K none M') : CallS Ω false m_Runs_init [vR (some (5, 0)), vR (some (6, 0))] M K := by
  refine call_go (hJL rfl) (Nat.le_of_ble_eq_true rfl) (go_wp ok_Runs_init [] 200 _ _ _ _ _ _ ?_)
  conv => whnf
  repeat' (first | refine And.intro rfl (And.intro ⟨Nat.le_of_ble_eq_true rfl, Nat.le_of_ble_eq_true rfl⟩ ?_) | refine And.intro ⟨Nat.le_of_ble_eq_true rfl, Nat.le_of_ble_eq_true rfl⟩ ?_ | refine And.intro (Or.inl rfl) ?_; conv => whnf)
  refine hK _ (IV.close (k := 5) (i := 0) ?_ ?_) ?_ ?_
  · repeat' (first | exact hI | refine IV.putI ?_ (by simp) | refine IV.putJ ?_ (by simp) | refine IV.putR ?_ (by simp) | refine IV.newA ?_ (fun _ _ => ⟨rfl, rfl, rfl⟩))
  · obtain ⟨h0, h1, h2, h3, h4, h5, h6⟩ := hc
    intro s hs
    have hs : s < 9 := hs
    rcases (show s = 0 ∨ s = 1 ∨ s = 2 ∨ s = 3 ∨ s = 4 ∨ s = 5 ∨ s = 6 ∨ s = 7 ∨ s = 8 by omega) with rfl | rfl | rfl | rfl | rfl | rfl | rfl | rfl | rfl <;> (refine ⟨?_, ?_, ?_⟩ <;> first | rfl | (simp [mI_sI, mI_sJ, mI_sR, mI_sNew, mJ_sI, mJ_sJ, mJ_sR, mJ_sNew, mR_sI, mR_sJ, mR_sR, mR_sNew, mC_sI, mC_sJ, mC_sR, mC_sNew, h0, h1, h2, h3, h4, h5, h6, (hz _).1, (hz _).2.1, (hz _).2.2]; try rfl))
  · repeat' (first | exact Cnt.rfl | refine Cnt.putI ?_ | refine Cnt.putJ ?_ | refine Cnt.putR ?_ | refine Cnt.new ?_)
  · repeat' (first | exact Unch.rfl | refine Unch.putI ?_ (by simp) | refine Unch.putJ ?_ (by simp) | refine Unch.putR ?_ (by simp) | refine Unch.new ?_ (by simp))
set_option maxHeartbeats 4000000 in
theorem c_Wing_init (Ω : Om) (M : Mem) (w : Nat) (op : List (Nat × Nat)) (K : Ka) (hI : IV M ((10, w) :: op)) (hz : Zer M 10 w) (hc : mC M 57 = w ∧ mC M 58 = w ∧ mC M 59 = w ∧ mC M 60 = w ∧ mC M 61 = w ∧ mC M 62 = w ∧ mC M 2 = w + 2 ∧ mC M 23 = w + 2 ∧ mC M 24 = w + 2 ∧ mC M 25 = w + 2 ∧ mC M 26 = w + 2) (hK : ∀ M', IV M' op → Cnt [26, 25, 24, 23, 2, 62, 61, 60, 59, 58, 57] M M' → Unch [10, 57, 58, 59, 60, 61, 62, 2, 23, 24, 25, 26] M M' → K none M') : CallS Ω false m_Wing_init [vR (some (10, w))] M K := by
  obtain ⟨h0, h1, h2, h3, h4, h5, h6, h7, h8, h9, h10⟩ := hc
  refine call_go (hJL rfl) (Nat.le_of_ble_eq_true rfl) (go_wp ok_Wing_init [] 200 _ _ _ _ _ _ ?_)
  conv => whnf
  repeat' (first | refine And.intro rfl (And.intro ⟨Nat.le_of_ble_eq_true rfl, Nat.le_of_ble_eq_true rfl⟩ ?_) | refine And.intro ⟨Nat.le_of_ble_eq_true rfl, Nat.le_of_ble_eq_true rfl⟩ ?_ | refine And.intro (Or.inl rfl) ?_; conv => whnf)
  refine ⟨fun v M' => v = none ∧ IV M' ((10, w) :: op) ∧ Cnt [26, 25, 24, 23] _ M' ∧ Unch [2, 23, 24, 25, 26] _ M', c_Flow_init Ω _ _ ((10, w) :: op) _ (IV.new ?_) Zer.new ?_ (fun M' a b c => ⟨rfl, a, b, c⟩), ⟨Nat.le_of_ble_eq_true rfl, Nat.le_of_ble_eq_true rfl⟩, ?_⟩
  · repeat' (first | exact hI | refine IV.putI ?_ (by simp) | refine IV.putJ ?_ (by simp) | refine IV.putR ?_ (by simp) | refine IV.newA ?_ (fun _ _ => ⟨rfl, rfl, rfl⟩))
  · simp [mI_sI, mI_sJ, mI_sR, mI_sNew, mJ_sI, mJ_sJ, mJ_sR, mJ_sNew, mR_sI, mR_sJ, mR_sR, mR_sNew, mC_sI, mC_sJ, mC_sR, mC_sNew, h0, h1, h2, h3, h4, h5, h6, h7, h8, h9, h10]
  · rintro v M' ⟨rfl, hI2, hC2, hU2⟩
    have g1 := fun s => (hU2 10 (by decide) w s).1
    have g2 := fun s => (hU2 10 (by decide) w s).2.1
    have g3 := fun s => (hU2 10 (by decide) w s).2.2

    conv => whnf
    skip
    refine hK _ (IV.close (k := 10) (i := w) ?_ ?_) ?_ ?_
    · repeat' (first | exact hI2 | refine IV.putI ?_ (by simp) | refine IV.putJ ?_ (by simp) | refine IV.putR ?_ (by simp) | refine IV.newA ?_ (fun _ _ => ⟨rfl, rfl, rfl⟩))
    · intro s hs
      have hs : s < 12 := hs
      rcases (show s = 0 ∨ s = 1 ∨ s = 2 ∨ s = 3 ∨ s = 4 ∨ s = 5 ∨ s = 6 ∨ s = 7 ∨ s = 8 ∨ s = 9 ∨ s = 10 ∨ s = 11 by omega) with rfl | rfl | rfl | rfl | rfl | rfl | rfl | rfl | rfl | rfl | rfl | rfl <;> (refine ⟨?_, ?_, ?_⟩ <;> first | rfl | (simp [mI_sI, mI_sJ, mI_sR, mI_sNew, mJ_sI, mJ_sJ, mJ_sR, mJ_sNew, mR_sI, mR_sJ, mR_sR, mR_sNew, mC_sI, mC_sJ, mC_sR, mC_sNew, g1, g2, g3, h0, h1, h2, h3, h4, h5, h6, h7, h8, h9, h10, (hz _).1, (hz _).2.1, (hz _).2.2]; try rfl))
    · have hC3 : Cnt [26, 25, 24, 23, 2, 62, 61, 60, 59, 58, 57] M M' := by
        refine Cnt.app (ks := [2, 62, 61, 60, 59, 58, 57]) (ks' := [26, 25, 24, 23]) ?_ hC2
        repeat' (first | exact Cnt.rfl | refine Cnt.putI ?_ | refine Cnt.putJ ?_ | refine Cnt.putR ?_ | refine Cnt.new ?_)
      repeat' (first | exact hC3 | refine Cnt.putI ?_ | refine Cnt.putJ ?_ | refine Cnt.putR ?_ | refine Cnt.new ?_)
    · have hU3 : Unch [10, 57, 58, 59, 60, 61, 62, 2, 23, 24, 25, 26] M M' := Unch.trans ?_ (hU2.mono (by simp))
      · repeat' (first | exact hU3 | refine Unch.putI ?_ (by simp) | refine Unch.putJ ?_ (by simp) | refine Unch.putR ?_ (by simp) | refine Unch.new ?_ (by simp))
      · repeat' (first | exact Unch.rfl | refine Unch.putI ?_ (by simp) | refine Unch.putJ ?_ (by simp) | refine Unch.putR ?_ (by simp) | refine Unch.new ?_ (by simp))
set_option maxHeartbeats 4000000 in
theorem c_Solver_init (Ω : Om) (M : Mem) (op : List (Nat × Nat)) (K : Ka) (hI : IV M ((6, 0) :: op)) (hz : Zer M 6 0) (hc : mC M 37 = 0 ∧ mC M 38 = 0 ∧ mC M 39 = 0 ∧ mC M 40 = 0 ∧ mC M 41 = 0 ∧ mC M 2 = 0 ∧ mC M 23 = 0 ∧ mC M 24 = 0 ∧ mC M 25 = 0 ∧ mC M 26 = 0) (hK : ∀ M', IV M' op → Cnt [41, 40, 39, 38, 26, 25, 24, 23, 2, 37] M M' → Unch [6, 37, 38, 39, 40, 41, 2, 23, 24, 25, 26] M M' → K none M') : CallS Ω false m_Solver_init [vR (some (6, 0))] M K := by
  obtain ⟨h0, h1, h2, h3, h4, h5, h6, h7, h8, h9⟩ := hc
  refine call_go (hJL rfl) (Nat.le_of_ble_eq_true rfl) (go_wp ok_Solver_init [] 200 _ _ _ _ _ _ ?_)
  conv => whnf
  repeat' (first | refine And.intro rfl (And.intro ⟨Nat.le_of_ble_eq_true rfl, Nat.le_of_ble_eq_true rfl⟩ ?_) | refine And.intro ⟨Nat.le_of_ble_eq_true rfl, Nat.le_of_ble_eq_true rfl⟩ ?_ | refine And.intro (Or.inl rfl) ?_; conv => whnf)
  refine ⟨fun v M' => v = none ∧ IV M' ((6, 0) :: op) ∧ Cnt [26, 25, 24, 23] _ M' ∧ Unch [2, 23, 24, 25, 26] _ M', c_Flow_init Ω _ _ ((6, 0) :: op) _ (IV.new ?_) Zer.new ?_ (fun M' a b c => ⟨rfl, a, b, c⟩), ⟨Nat.le_of_ble_eq_true rfl, Nat.le_of_ble_eq_true rfl⟩, ?_⟩
  · repeat' (first | exact hI | refine IV.putI ?_ (by simp) | refine IV.putJ ?_ (by simp) | refine IV.putR ?_ (by simp) | refine IV.newA ?_ (fun _ _ => ⟨rfl, rfl, rfl⟩))
  · simp [mI_sI, mI_sJ, mI_sR, mI_sNew, mJ_sI, mJ_sJ, mJ_sR, mJ_sNew, mR_sI, mR_sJ, mR_sR, mR_sNew, mC_sI, mC_sJ, mC_sR, mC_sNew, h0, h1, h2, h3, h4, h5, h6, h7, h8, h9]
  · rintro v M' ⟨rfl, hI2, hC2, hU2⟩
    have g1 := fun s => (hU2 6 (by decide) 0 s).1
    have g2 := fun s => (hU2 6 (by decide) 0 s).2.1
    have g3 := fun s => (hU2 6 (by decide) 0 s).2.2
    have e38 : mC M' 38 = 0 := by rw [hC2 38]; simp [mI_sI, mI_sJ, mI_sR, mI_sNew, mJ_sI, mJ_sJ, mJ_sR, mJ_sNew, mR_sI, mR_sJ, mR_sR, mR_sNew, mC_sI, mC_sJ, mC_sR, mC_sNew, h0, h1, h2, h3, h4, h5, h6, h7, h8, h9]
    have e39 : mC M' 39 = 0 := by rw [hC2 39]; simp [mI_sI, mI_sJ, mI_sR, mI_sNew, mJ_sI, mJ_sJ, mJ_sR, mJ_sNew, mR_sI, mR_sJ, mR_sR, mR_sNew, mC_sI, mC_sJ, mC_sR, mC_sNew, h0, h1, h2, h3, h4, h5, h6, h7, h8, h9]
    have e40 : mC M' 40 = 0 := by rw [hC2 40]; simp [mI_sI, mI_sJ, mI_sR, mI_sNew, mJ_sI, mJ_sJ, mJ_sR, mJ_sNew, mR_sI, mR_sJ, mR_sR, mR_sNew, mC_sI, mC_sJ, mC_sR, mC_sNew, h0, h1, h2, h3, h4, h5, h6, h7, h8, h9]
    have e41 : mC M' 41 = 0 := by rw [hC2 41]; simp [mI_sI, mI_sJ, mI_sR, mI_sNew, mJ_sI, mJ_sJ, mJ_sR, mJ_sNew, mR_sI, mR_sJ, mR_sR, mR_sNew, mC_sI, mC_sJ, mC_sR, mC_sNew, h0, h1, h2, h3, h4, h5, h6, h7, h8, h9]
    conv => whnf
    repeat' (first | refine And.intro rfl (And.intro ⟨Nat.le_of_ble_eq_true rfl, Nat.le_of_ble_eq_true rfl⟩ ?_) | refine And.intro ⟨Nat.le_of_ble_eq_true rfl, Nat.le_of_ble_eq_true rfl⟩ ?_ | refine And.intro (Or.inl rfl) ?_; conv => whnf)
    refine hK _ (IV.close (k := 6) (i := 0) ?_ ?_) ?_ ?_
    · repeat' (first | exact hI2 | refine IV.putI ?_ (by simp) | refine IV.putJ ?_ (by simp) | refine IV.putR ?_ (by simp) | refine IV.newA ?_ (fun _ _ => ⟨rfl, rfl, rfl⟩))
    · intro s hs
      have hs : s < 9 := hs
      rcases (show s = 0 ∨ s = 1 ∨ s = 2 ∨ s = 3 ∨ s = 4 ∨ s = 5 ∨ s = 6 ∨ s = 7 ∨ s = 8 by omega) with rfl | rfl | rfl | rfl | rfl | rfl | rfl | rfl | rfl <;> (refine ⟨?_, ?_, ?_⟩ <;> first | rfl | (simp [mI_sI, mI_sJ, mI_sR, mI_sNew, mJ_sI, mJ_sJ, mJ_sR, mJ_sNew, mR_sI, mR_sJ, mR_sR, mR_sNew, mC_sI, mC_sJ, mC_sR, mC_sNew, g1, g2, g3, h0, h1, h2, h3, h4, h5, h6, h7, h8, h9, (hz _).1, (hz _).2.1, (hz _).2.2, e38, e39, e40, e41]; try rfl))
    · have hC3 : Cnt [26, 25, 24, 23, 2, 37] M M' := by
        refine Cnt.app (ks := [2, 37]) (ks' := [26, 25, 24, 23]) ?_ hC2
        repeat' (first | exact Cnt.rfl | refine Cnt.putI ?_ | refine Cnt.putJ ?_ | refine Cnt.putR ?_ | refine Cnt.new ?_)
      repeat' (first | exact hC3 | refine Cnt.putI ?_ | refine Cnt.putJ ?_ | refine Cnt.putR ?_ | refine Cnt.new ?_)
    · have hU3 : Unch [6, 37, 38, 39, 40, 41, 2, 23, 24, 25, 26] M M' := Unch.trans ?_ (hU2.mono (by simp))
      · repeat' (first | exact hU3 | refine Unch.putI ?_ (by simp) | refine Unch.putJ ?_ (by simp) | refine Unch.putR ?_ (by simp) | refine Unch.new ?_ (by simp))
      · repeat' (first | exact Unch.rfl | refine Unch.putI ?_ (by simp) | refine Unch.putJ ?_ (by simp) | refine Unch.putR ?_ (by simp) | refine Unch.new ?_ (by simp))
