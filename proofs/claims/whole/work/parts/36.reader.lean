/-! CONSTRUCTORS, VII: Tokens and Reader -/
set_option maxHeartbeats 8000000 in
theorem c_Tokens_init (Ω : Om) (M : Mem) (op : List (Nat × Nat)) (K : Ka) (hI : IV M ((8, 0) :: op)) (hz : Zer M 8 0) (hc : mC M 49 = 0 ∧ mC M 50 = 0 ∧ mC M 51 = 0 ∧ mC M 52 = 0) (hK : ∀ M', IV M' op → Cnt [52, 51, 50, 49] M M' → Unch [8, 49, 50, 51, 52] M M' → K none M') : CallS Ω false m_Tokens_init [vR (some (8, 0))] M K := by
  obtain ⟨h0, h1, h2, h3⟩ := hc
  refine call_go (hJL rfl) (Nat.le_of_ble_eq_true rfl) (go_wp ok_Tokens_init [66] 100 _ _ _ _ _ _ ?_)
  conv => whnf
  refine cl_use (fun K h => c_S_length Ω false M K h) ⟨Nat.le_of_ble_eq_true rfl, Nat.le_of_ble_eq_true rfl⟩ ?_
  conv => whnf
  refine And.intro (by decide) ?_
  conv => whnf
  refine And.intro (by decide) ?_
  refine And.intro ⟨Nat.le_of_ble_eq_true rfl, Nat.le_of_ble_eq_true rfl⟩ ?_
  conv => whnf
  repeat' (first | refine And.intro rfl (And.intro ⟨Nat.le_of_ble_eq_true rfl, Nat.le_of_ble_eq_true rfl⟩ ?_) | refine And.intro ⟨Nat.le_of_ble_eq_true rfl, Nat.le_of_ble_eq_true rfl⟩ ?_ | refine And.intro (Or.inl rfl) ?_; conv => whnf)
  have hfin : ∀ M2 : Mem, IV M2 ((49, 0) :: (8, 0) :: op) → Cnt [52, 51, 50, 49] M M2 → Unch [8, 49, 50, 51, 52] M M2 → Fine M2 8 0 → Zer M2 49 0 → GoS Ω false m_Tokens_init K 66 [some (vR (some (8, 0))), some (vI (nI 0)), none] [] M2 4 1525 := by
    intro M2 a b c d e
    refine lp_Tokens (fun M3 x y z => hK M3 x (fun k => (y k).trans (b k)) (c.trans (z.mono (by simp)))) 110 0 M2 none (Nat.zero_le _) (Nat.le_refl _) ⟨IV.close (k := 8) (i := 0) (a.sub (fun q hq => ?_)) d, fun _ => rfl, Unch.rfl, fun s => ⟨(e s).1, (e s).2.2, (e s).2.1⟩, (d 0 (by decide)).2.2⟩
    simp only [List.mem_cons] at hq ⊢
    rcases hq with h | h | h <;> simp [h]
  refine go_c ?_ ?_ ?_ ?_ (hfin _ ?_ ?_ ?_ ?_ ?_)
  · exact Nat.le_of_ble_eq_true rfl
  · exact Nat.le_of_ble_eq_true rfl
  · exact Nat.le_of_ble_eq_true rfl
  · exact Nat.le_of_ble_eq_true rfl
  · repeat' (first | exact hI | refine IV.putI ?_ (by simp) | refine IV.putR ?_ (by simp) | refine IV.newA (k := 50) ?_ (fun _ _ => ⟨rfl, rfl, rfl⟩) | refine IV.newA (k := 51) ?_ (fun _ _ => ⟨rfl, rfl, rfl⟩) | refine IV.newA (k := 52) ?_ (fun _ _ => ⟨rfl, rfl, rfl⟩) | refine IV.new' (k := 49) (op := (8, 0) :: op) ?_ h0)
  · repeat' (first | exact Cnt.rfl | refine Cnt.putI ?_ | refine Cnt.putJ ?_ | refine Cnt.putR ?_ | refine Cnt.new ?_)
  · repeat' (first | exact Unch.rfl | refine Unch.putI ?_ (by simp) | refine Unch.putJ ?_ (by simp) | refine Unch.putR ?_ (by simp) | refine Unch.new ?_ (by simp))
  · intro s hs
    have hs : s < 8 := hs
    rcases (show s = 0 ∨ s = 1 ∨ s = 2 ∨ s = 3 ∨ s = 4 ∨ s = 5 ∨ s = 6 ∨ s = 7 by omega) with rfl | rfl | rfl | rfl | rfl | rfl | rfl | rfl <;> (refine ⟨?_, ?_, ?_⟩ <;> first | rfl | (simp [mI_sI, mI_sJ, mI_sR, mI_sNew, mJ_sI, mJ_sJ, mJ_sR, mJ_sNew, mR_sI, mR_sJ, mR_sR, mR_sNew, mC_sI, mC_sJ, mC_sR, mC_sNew, h0, h1, h2, h3, (hz _).1, (hz _).2.1, (hz _).2.2]; try rfl))
  · intro s
    simp [mI_sI, mI_sJ, mI_sR, mI_sNew, mJ_sI, mJ_sJ, mJ_sR, mJ_sNew, mR_sI, mR_sJ, mR_sR, mR_sNew, mC_sI, mC_sJ, mC_sR, mC_sNew, h0]
set_option maxHeartbeats 8000000 in
theorem c_Reader_init (Ω : Om) (M : Mem) (op : List (Nat × Nat)) (K : Ka) (hI : IV M ((4, 0) :: op)) (hz : Zer M 4 0) (hc : mC M 49 = 0 ∧ mC M 50 = 0 ∧ mC M 51 = 0 ∧ mC M 52 = 0 ∧ mC M 8 = 0 ∧ mC M 29 = 0) (hK : ∀ M', IV M' op → Cnt [29, 52, 51, 50, 49, 8] M M' → Unch [4, 29, 8, 49, 50, 51, 52] M M' → K none M') : CallS Ω false m_Reader_init [vR (some (4, 0))] M K := by
  obtain ⟨h0, h1, h2, h3, h4, h5⟩ := hc
  refine call_go (hJL rfl) (Nat.le_of_ble_eq_true rfl) (go_wp ok_Reader_init [] 100 _ _ _ _ _ _ ?_)
  conv => whnf
  repeat' (first | refine And.intro rfl (And.intro ⟨Nat.le_of_ble_eq_true rfl, Nat.le_of_ble_eq_true rfl⟩ ?_) | refine And.intro ⟨Nat.le_of_ble_eq_true rfl, Nat.le_of_ble_eq_true rfl⟩ ?_ | refine And.intro (Or.inl rfl) ?_; conv => whnf)
  rw [h4]
  conv => whnf
  refine ⟨fun v M' => v = none ∧ IV M' ((4, 0) :: op) ∧ Cnt [52, 51, 50, 49] (sNew M 8) M' ∧ Unch [8, 49, 50, 51, 52] (sNew M 8) M', c_Tokens_init Ω (sNew M 8) ((4, 0) :: op) _ (IV.new' hI h4) (by rw [← h4]; exact Zer.new) ⟨h0, h1, h2, h3⟩ (fun M' a b c => ⟨rfl, a, b, c⟩), ⟨Nat.le_of_ble_eq_true rfl, Nat.le_of_ble_eq_true rfl⟩, ?_⟩
  rintro v M' ⟨rfl, hI2, hC2, hU2⟩
  have g1 := fun s => (hU2 4 (by decide) 0 s).1
  have g2 := fun s => (hU2 4 (by decide) 0 s).2.1
  have g3 := fun s => (hU2 4 (by decide) 0 s).2.2
  have e29 : mC M' 29 = 0 := by rw [hC2 29]; simp [mI_sI, mI_sJ, mI_sR, mI_sNew, mJ_sI, mJ_sJ, mJ_sR, mJ_sNew, mR_sI, mR_sJ, mR_sR, mR_sNew, mC_sI, mC_sJ, mC_sR, mC_sNew, h5]
  conv => whnf
  repeat' (first | refine And.intro rfl (And.intro ⟨Nat.le_of_ble_eq_true rfl, Nat.le_of_ble_eq_true rfl⟩ ?_) | refine And.intro ⟨Nat.le_of_ble_eq_true rfl, Nat.le_of_ble_eq_true rfl⟩ ?_ | refine And.intro (Or.inl rfl) ?_; conv => whnf)
  refine hK _ (IV.close (k := 4) (i := 0) ?_ ?_) ?_ ?_
  · repeat' (first | exact hI2 | refine IV.putI ?_ (by simp) | refine IV.putJ ?_ (by simp) | refine IV.putR ?_ (by simp) | refine IV.newA (k := 29) ?_ (fun _ _ => ⟨rfl, rfl, rfl⟩))
  · intro s hs
    have hs : s < 10 := hs
    rcases (show s = 0 ∨ s = 1 ∨ s = 2 ∨ s = 3 ∨ s = 4 ∨ s = 5 ∨ s = 6 ∨ s = 7 ∨ s = 8 ∨ s = 9 by omega) with rfl | rfl | rfl | rfl | rfl | rfl | rfl | rfl | rfl | rfl <;> (refine ⟨?_, ?_, ?_⟩ <;> first | rfl | (simp [mI_sI, mI_sJ, mI_sR, mI_sNew, mJ_sI, mJ_sJ, mJ_sR, mJ_sNew, mR_sI, mR_sJ, mR_sR, mR_sNew, mC_sI, mC_sJ, mC_sR, mC_sNew, g1, g2, g3, h0, h1, h2, h3, h4, h5, e29, (hz _).1, (hz _).2.1, (hz _).2.2]; try rfl))
  · have hC3 : Cnt [52, 51, 50, 49, 8] M M' := by
      refine Cnt.app (ks := [8]) (ks' := [52, 51, 50, 49]) ?_ hC2
      repeat' (first | exact Cnt.rfl | refine Cnt.putI ?_ | refine Cnt.putJ ?_ | refine Cnt.putR ?_ | refine Cnt.new ?_)
    repeat' (first | exact hC3 | refine Cnt.putI ?_ | refine Cnt.putJ ?_ | refine Cnt.putR ?_ | refine Cnt.new ?_)
  · have hU3 : Unch [4, 29, 8, 49, 50, 51, 52] M M' := Unch.trans ?_ (hU2.mono (by simp))
    · repeat' (first | exact hU3 | refine Unch.putI ?_ (by simp) | refine Unch.putJ ?_ (by simp) | refine Unch.putR ?_ (by simp) | refine Unch.new ?_ (by simp))
    · repeat' (first | exact Unch.rfl | refine Unch.putI ?_ (by simp) | refine Unch.putJ ?_ (by simp) | refine Unch.putR ?_ (by simp) | refine Unch.new ?_ (by simp))
