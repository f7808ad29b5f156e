/-! CONSTRUCTORS, III -/
theorem IV.fillI {M : Mem} {op : List (Nat × Nat)} {k i n : Nat} {x : Int32} (h : IV M op) (ho : (k, i) ∈ op) : IV (sFillI M k i n x) op := by
  intro k' i' hk hi hno s' hs
  have h1 : ¬ (k' = k ∧ i' = i ∧ s' < n) := fun q => hno (by rw [q.1, q.2.1]; exact ho)
  refine ⟨?_, (h k' i' hk hi hno s' hs).2.1, (h k' i' hk hi hno s' hs).2.2⟩
  rw [← (h k' i' hk hi hno s' hs).1]
  show (if k' = k ∧ i' = i ∧ s' < n then x else _) = _
  rw [if_neg h1]; rfl
theorem IV.fillJ {M : Mem} {op : List (Nat × Nat)} {k i n : Nat} {x : Int64} (h : IV M op) (ho : (k, i) ∈ op) : IV (sFillJ M k i n x) op := by
  intro k' i' hk hi hno s' hs
  have h1 : ¬ (k' = k ∧ i' = i ∧ s' < n) := fun q => hno (by rw [q.1, q.2.1]; exact ho)
  refine ⟨(h k' i' hk hi hno s' hs).1, ?_, (h k' i' hk hi hno s' hs).2.2⟩
  rw [← (h k' i' hk hi hno s' hs).2.1]
  show (if k' = k ∧ i' = i ∧ s' < n then x else _) = _
  rw [if_neg h1]; rfl
theorem Unch.fillI {ks : List Nat} {M M' : Mem} {k i n : Nat} {x : Int32} (h : Unch ks M M') (hk : k ∈ ks) : Unch ks M (sFillI M' k i n x) := fun k' hk' i' s' => by
  have h1 : ¬ (k' = k ∧ i' = i ∧ s' < n) := fun q => hk' (by rw [q.1]; exact hk)
  refine ⟨?_, (h k' hk' i' s').2⟩
  rw [← (h k' hk' i' s').1]
  show (if k' = k ∧ i' = i ∧ s' < n then x else _) = _
  rw [if_neg h1]; rfl
theorem Unch.fillJ {ks : List Nat} {M M' : Mem} {k i n : Nat} {x : Int64} (h : Unch ks M M') (hk : k ∈ ks) : Unch ks M (sFillJ M' k i n x) := fun k' hk' i' s' => by
  have h1 : ¬ (k' = k ∧ i' = i ∧ s' < n) := fun q => hk' (by rw [q.1]; exact hk)
  refine ⟨(h k' hk' i' s').1, ?_, (h k' hk' i' s').2.2⟩
  rw [← (h k' hk' i' s').2.1]
  show (if k' = k ∧ i' = i ∧ s' < n then x else _) = _
  rw [if_neg h1]; rfl
theorem Cnt.fillI {ks : List Nat} {M M' : Mem} {k i n : Nat} {x : Int32} (h : Cnt ks M M') : Cnt ks M (sFillI M' k i n x) := h
theorem Cnt.fillJ {ks : List Nat} {M M' : Mem} {k i n : Nat} {x : Int64} (h : Cnt ks M M') : Cnt ks M (sFillJ M' k i n x) := h
theorem mI_sFI (M : Mem) (k i n : Nat) (x : Int32) (k' i' s' : Nat) : mI (sFillI M k i n x) k' i' s' = if k' = k ∧ i' = i ∧ s' < n then x else mI M k' i' s' := rfl
theorem mJ_sFI (M : Mem) (k i n : Nat) (x : Int32) (k' i' s' : Nat) : mJ (sFillI M k i n x) k' i' s' = mJ M k' i' s' := rfl
theorem mR_sFI (M : Mem) (k i n : Nat) (x : Int32) (k' i' s' : Nat) : mR (sFillI M k i n x) k' i' s' = mR M k' i' s' := rfl
theorem mC_sFI (M : Mem) (k i n : Nat) (x : Int32) (k' : Nat) : mC (sFillI M k i n x) k' = mC M k' := rfl
theorem mI_sFJ (M : Mem) (k i n : Nat) (x : Int64) (k' i' s' : Nat) : mI (sFillJ M k i n x) k' i' s' = mI M k' i' s' := rfl
theorem mJ_sFJ (M : Mem) (k i n : Nat) (x : Int64) (k' i' s' : Nat) : mJ (sFillJ M k i n x) k' i' s' = if k' = k ∧ i' = i ∧ s' < n then x else mJ M k' i' s' := rfl
theorem mR_sFJ (M : Mem) (k i n : Nat) (x : Int64) (k' i' s' : Nat) : mR (sFillJ M k i n x) k' i' s' = mR M k' i' s' := rfl
theorem mC_sFJ (M : Mem) (k i n : Nat) (x : Int64) (k' : Nat) : mC (sFillJ M k i n x) k' = mC M k' := rfl
set_option maxHeartbeats 4000000 in
theorem c_Best_init (Ω : Om) (M : Mem) (op : List (Nat × Nat)) (K : Ka) (hI : IV M ((1, 0) :: op)) (hz : Zer M 1 0) (hc : mC M 18 = 0 ∧ mC M 19 = 0 ∧ mC M 20 = 0 ∧ mC M 21 = 0 ∧ mC M 22 = 0) (hK : ∀ M', IV M' op → Cnt [22, 21, 20, 19, 18] M M' → Unch [1, 18, 19, 20, 21, 22] M M' → K none M') : CallS Ω false m_Best_init [vR (some (1, 0)), vR (some (6, 0))] M K := by
  obtain ⟨h0, h1, h2, h3, h4⟩ := hc
  refine call_go (hJL rfl) (Nat.le_of_ble_eq_true rfl) (go_wp ok_Best_init [] 200 _ _ _ _ _ _ ?_)
  conv => whnf
  repeat' (first | refine And.intro rfl (And.intro ⟨Nat.le_of_ble_eq_true rfl, Nat.le_of_ble_eq_true rfl⟩ ?_) | refine And.intro ⟨Nat.le_of_ble_eq_true rfl, Nat.le_of_ble_eq_true rfl⟩ ?_ | refine And.intro (Or.inl rfl) ?_; conv => whnf)
  refine cl_use (r := none) (M1 := sFillI _ 22 _ 10 _) (fun K h => c_fillI Ω false _ 22 _ 10 _ K rfl (by decide) (by decide) h) ⟨Nat.le_of_ble_eq_true rfl, Nat.le_of_ble_eq_true rfl⟩ ?_
  conv => whnf
  refine hK _ (IV.close (k := 1) (i := 0) (IV.close (k := 22) (i := mC M 22) (IV.fillI ?_ List.mem_cons_self) ?_) ?_) ?_ ?_
  · repeat' (first | exact hI | refine IV.putI ?_ (by simp) | refine IV.putJ ?_ (by simp) | refine IV.putR ?_ (by simp) | refine IV.newA (k := 18) ?_ (fun _ _ => ⟨rfl, rfl, rfl⟩) | refine IV.newA (k := 19) ?_ (fun _ _ => ⟨rfl, rfl, rfl⟩) | refine IV.newA (k := 20) ?_ (fun _ _ => ⟨rfl, rfl, rfl⟩) | refine IV.newA (k := 21) ?_ (fun _ _ => ⟨rfl, rfl, rfl⟩) | refine IV.new ?_)
  · intro s hs
    have hs : s < 10 := hs
    refine ⟨?_, ?_, ?_⟩
    · rw [mI_sFI, if_pos ⟨rfl, rfl, hs⟩]; rfl
    · simp [mI_sI, mI_sJ, mI_sR, mI_sNew, mJ_sI, mJ_sJ, mJ_sR, mJ_sNew, mR_sI, mR_sJ, mR_sR, mR_sNew, mC_sI, mC_sJ, mC_sR, mC_sNew, mI_sFI, mJ_sFI, mR_sFI, mC_sFI, mI_sFJ, mJ_sFJ, mR_sFJ, mC_sFJ]; rfl
    · simp [mI_sI, mI_sJ, mI_sR, mI_sNew, mJ_sI, mJ_sJ, mJ_sR, mJ_sNew, mR_sI, mR_sJ, mR_sR, mR_sNew, mC_sI, mC_sJ, mC_sR, mC_sNew, mI_sFI, mJ_sFI, mR_sFI, mC_sFI, mI_sFJ, mJ_sFJ, mR_sFJ, mC_sFJ]; rfl
  · 
    intro s hs
    have hs : s < 9 := hs
    rcases (show s = 0 ∨ s = 1 ∨ s = 2 ∨ s = 3 ∨ s = 4 ∨ s = 5 ∨ s = 6 ∨ s = 7 ∨ s = 8 by omega) with rfl | rfl | rfl | rfl | rfl | rfl | rfl | rfl | rfl <;> (refine ⟨?_, ?_, ?_⟩ <;> first | rfl | (simp [mI_sI, mI_sJ, mI_sR, mI_sNew, mJ_sI, mJ_sJ, mJ_sR, mJ_sNew, mR_sI, mR_sJ, mR_sR, mR_sNew, mC_sI, mC_sJ, mC_sR, mC_sNew, mI_sFI, mJ_sFI, mR_sFI, mC_sFI, mI_sFJ, mJ_sFJ, mR_sFJ, mC_sFJ, h0, h1, h2, h3, h4, (hz _).1, (hz _).2.1, (hz _).2.2]; try rfl))
  · repeat' (first | exact Cnt.rfl | refine Cnt.fillI ?_ | refine Cnt.putI ?_ | refine Cnt.putJ ?_ | refine Cnt.putR ?_ | refine Cnt.new ?_)
  · repeat' (first | exact Unch.rfl | refine Unch.fillI ?_ (by simp) | refine Unch.putI ?_ (by simp) | refine Unch.putJ ?_ (by simp) | refine Unch.putR ?_ (by simp) | refine Unch.new ?_ (by simp))
set_option maxHeartbeats 4000000 in
theorem c_Trials_init (Ω : Om) (M : Mem) (op : List (Nat × Nat)) (K : Ka) (hI : IV M ((9, 0) :: op)) (hz : Zer M 9 0) (hc : mC M 53 = 0 ∧ mC M 54 = 0 ∧ mC M 55 = 0 ∧ mC M 56 = 0 ∧ mC M 2 = 1 ∧ mC M 23 = 1 ∧ mC M 24 = 1 ∧ mC M 25 = 1 ∧ mC M 26 = 1) (hK : ∀ M', IV M' op → Cnt [56, 55, 54, 53, 26, 25, 24, 23, 2] M M' → Unch [9, 53, 54, 55, 56, 2, 23, 24, 25, 26] M M' → K none M') : CallS Ω false m_Trials_init [vR (some (9, 0)), vR (some (6, 0))] M K := by
  obtain ⟨h0, h1, h2, h3, h4, h5, h6, h7, h8⟩ := hc
  refine call_go (hJL rfl) (Nat.le_of_ble_eq_true rfl) (go_wp ok_Trials_init [] 200 _ _ _ _ _ _ ?_)
  conv => whnf
  repeat' (first | refine And.intro rfl (And.intro ⟨Nat.le_of_ble_eq_true rfl, Nat.le_of_ble_eq_true rfl⟩ ?_) | refine And.intro ⟨Nat.le_of_ble_eq_true rfl, Nat.le_of_ble_eq_true rfl⟩ ?_ | refine And.intro (Or.inl rfl) ?_; conv => whnf)
  refine ⟨fun v M' => v = none ∧ IV M' ((9, 0) :: op) ∧ Cnt [26, 25, 24, 23] _ M' ∧ Unch [2, 23, 24, 25, 26] _ M', c_Flow_init Ω _ _ ((9, 0) :: op) _ (IV.new ?_) Zer.new ?_ (fun M' a b c => ⟨rfl, a, b, c⟩), ⟨Nat.le_of_ble_eq_true rfl, Nat.le_of_ble_eq_true rfl⟩, ?_⟩
  · exact hI
  · simp [mI_sI, mI_sJ, mI_sR, mI_sNew, mJ_sI, mJ_sJ, mJ_sR, mJ_sNew, mR_sI, mR_sJ, mR_sR, mR_sNew, mC_sI, mC_sJ, mC_sR, mC_sNew, h0, h1, h2, h3, h4, h5, h6, h7, h8]
  · rintro v M' ⟨rfl, hI2, hC2, hU2⟩
    have g1 := fun s => (hU2 9 (by decide) 0 s).1
    have g2 := fun s => (hU2 9 (by decide) 0 s).2.1
    have g3 := fun s => (hU2 9 (by decide) 0 s).2.2
    have e53 : mC M' 53 = 0 := by rw [hC2 53]; simp [mI_sI, mI_sJ, mI_sR, mI_sNew, mJ_sI, mJ_sJ, mJ_sR, mJ_sNew, mR_sI, mR_sJ, mR_sR, mR_sNew, mC_sI, mC_sJ, mC_sR, mC_sNew, h0]
    have e54 : mC M' 54 = 0 := by rw [hC2 54]; simp [mI_sI, mI_sJ, mI_sR, mI_sNew, mJ_sI, mJ_sJ, mJ_sR, mJ_sNew, mR_sI, mR_sJ, mR_sR, mR_sNew, mC_sI, mC_sJ, mC_sR, mC_sNew, h1]
    have e55 : mC M' 55 = 0 := by rw [hC2 55]; simp [mI_sI, mI_sJ, mI_sR, mI_sNew, mJ_sI, mJ_sJ, mJ_sR, mJ_sNew, mR_sI, mR_sJ, mR_sR, mR_sNew, mC_sI, mC_sJ, mC_sR, mC_sNew, h2]
    have e56 : mC M' 56 = 0 := by rw [hC2 56]; simp [mI_sI, mI_sJ, mI_sR, mI_sNew, mJ_sI, mJ_sJ, mJ_sR, mJ_sNew, mR_sI, mR_sJ, mR_sR, mR_sNew, mC_sI, mC_sJ, mC_sR, mC_sNew, h3]
    conv => whnf
    repeat' (first | refine And.intro rfl (And.intro ⟨Nat.le_of_ble_eq_true rfl, Nat.le_of_ble_eq_true rfl⟩ ?_) | refine And.intro ⟨Nat.le_of_ble_eq_true rfl, Nat.le_of_ble_eq_true rfl⟩ ?_ | refine And.intro (Or.inl rfl) ?_; conv => whnf)
    refine cl_use (r := none) (M1 := sFillJ _ 53 _ 61 _) (fun K h => c_fillJ Ω false _ 53 _ 61 _ K rfl (by decide) h) ⟨Nat.le_of_ble_eq_true rfl, Nat.le_of_ble_eq_true rfl⟩ ?_
    conv => whnf
    refine hK _ (IV.close (k := 9) (i := 0) (IV.close (k := 53) (i := mC M' 53) (IV.fillJ ?_ List.mem_cons_self) ?_) ?_) ?_ ?_
    · repeat' (first | exact hI2 | refine IV.putI ?_ (by simp) | refine IV.putJ ?_ (by simp) | refine IV.putR ?_ (by simp) | refine IV.newA (k := 54) ?_ (fun _ _ => ⟨rfl, rfl, rfl⟩) | refine IV.newA (k := 55) ?_ (fun _ _ => ⟨rfl, rfl, rfl⟩) | refine IV.newA (k := 56) ?_ (fun _ _ => ⟨rfl, rfl, rfl⟩) | refine IV.new ?_)
    · intro s hs
      have hs : s < 61 := hs
      refine ⟨?_, ?_, ?_⟩
      · simp [mI_sI, mI_sJ, mI_sR, mI_sNew, mJ_sI, mJ_sJ, mJ_sR, mJ_sNew, mR_sI, mR_sJ, mR_sR, mR_sNew, mC_sI, mC_sJ, mC_sR, mC_sNew, mI_sFI, mJ_sFI, mR_sFI, mC_sFI, mI_sFJ, mJ_sFJ, mR_sFJ, mC_sFJ]; rfl
      · rw [mJ_sFJ, if_pos ⟨rfl, rfl, hs⟩]; rfl
      · simp [mI_sI, mI_sJ, mI_sR, mI_sNew, mJ_sI, mJ_sJ, mJ_sR, mJ_sNew, mR_sI, mR_sJ, mR_sR, mR_sNew, mC_sI, mC_sJ, mC_sR, mC_sNew, mI_sFI, mJ_sFI, mR_sFI, mC_sFI, mI_sFJ, mJ_sFJ, mR_sFJ, mC_sFJ]; rfl
    · 
      intro s hs
      have hs : s < 6 := hs
      rcases (show s = 0 ∨ s = 1 ∨ s = 2 ∨ s = 3 ∨ s = 4 ∨ s = 5 by omega) with rfl | rfl | rfl | rfl | rfl | rfl <;> (refine ⟨?_, ?_, ?_⟩ <;> first | rfl | (simp [mI_sI, mI_sJ, mI_sR, mI_sNew, mJ_sI, mJ_sJ, mJ_sR, mJ_sNew, mR_sI, mR_sJ, mR_sR, mR_sNew, mC_sI, mC_sJ, mC_sR, mC_sNew, mI_sFI, mJ_sFI, mR_sFI, mC_sFI, mI_sFJ, mJ_sFJ, mR_sFJ, mC_sFJ, g1, g2, g3, h0, h1, h2, h3, h4, h5, h6, h7, h8, e53, e54, e55, e56, (hz _).1, (hz _).2.1, (hz _).2.2]; try rfl))
    · have hC3 : Cnt [26, 25, 24, 23, 2] M M' := by
        refine Cnt.app (ks := [2]) (ks' := [26, 25, 24, 23]) ?_ hC2
        repeat' (first | exact Cnt.rfl | refine Cnt.putI ?_ | refine Cnt.putJ ?_ | refine Cnt.putR ?_ | refine Cnt.new ?_)
      repeat' (first | exact hC3 | refine Cnt.fillJ ?_ | refine Cnt.putI ?_ | refine Cnt.putJ ?_ | refine Cnt.putR ?_ | refine Cnt.new ?_)
    · have hU3 : Unch [9, 53, 54, 55, 56, 2, 23, 24, 25, 26] M M' := Unch.trans ?_ (hU2.mono (by simp))
      · repeat' (first | exact hU3 | refine Unch.fillJ ?_ (by simp) | refine Unch.putI ?_ (by simp) | refine Unch.putJ ?_ (by simp) | refine Unch.putR ?_ (by simp) | refine Unch.new ?_ (by simp))
      · repeat' (first | exact Unch.rfl | refine Unch.putI ?_ (by simp) | refine Unch.putJ ?_ (by simp) | refine Unch.putR ?_ (by simp) | refine Unch.new ?_ (by simp))
