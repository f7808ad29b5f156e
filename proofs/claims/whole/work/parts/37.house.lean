/-! CONSTRUCTORS, VIII: WingHouse -/
def wU : List Nat := List.range 141
theorem wU_mem {k : Nat} (h : k < 141) : k ∈ wU := List.mem_range.mpr h
/-- the class's object, its first j fields set; L: what is made besides it -/
def WI (j : Nat) (L : List Nat) (M M' : Mem) : Prop :=
  IV M' ((64, 0) :: (11, 0) :: []) ∧ (∀ k, k < 141 → mC M' k = (11 :: L).count k) ∧ Unch wU M M' ∧ (∀ s, s < 13 → mI M' 11 0 s = (if s < j then iI 11 s else 0) ∧ mJ M' 11 0 s = 0 ∧ mR M' 11 0 s = (if s < j then iR 11 0 s else none)) ∧ Zer M' 64 0
theorem WI.cn {j : Nat} {L : List Nat} {M M' : Mem} (h : WI j L M M') {k0 k : Nat} (hk : k < 141) (hn : k ≠ k0) : mC (sNew M' k0) k = (11 :: L).count k := by
  rw [mC_sNew, if_neg hn]
  exact h.2.1 k hk
theorem WI.call {j : Nat} {L : List Nat} {M M' : Mem} (h : WI j L M M') {k0 : Nat} {ks us : List Nat} {M2 : Mem} (hk0 : k0 < 141) (h11 : k0 ≠ 11) (h64 : k0 ≠ 64) (hj : j < 13) (hiR : iR 11 0 j = some (k0, 0)) (hiI : iI 11 j = 0) (hI : IV M2 ((64, 0) :: (11, 0) :: [])) (hC : Cnt ks (sNew M' k0) M2) (hU : Unch us (sNew M' k0) M2) (u11 : 11 ∉ us) (u64 : 64 ∉ us) (hus : ∀ k, k ∈ us → k < 141) : WI (j + 1) (ks ++ k0 :: L) M (sR M2 11 0 j (some (k0, 0))) := by
  refine ⟨IV.putR hI (by simp), fun k hk => ?_, ?_, fun s hs => ?_, fun s => ?_⟩
  · rw [mC_sR, hC k, mC_sNew]
    simp only [List.count_cons, List.count_append]
    have h2 := h.2.1 k hk
    simp only [List.count_cons] at h2
    by_cases e : k = k0
    · subst e
      rw [if_pos rfl, h2]
      simp
      omega
    · rw [if_neg e, h2]
      simp [Ne.symm e]
      omega
  · exact Unch.putR (Unch.trans (Unch.new h.2.2.1 (wU_mem hk0)) (hU.mono (fun k hk => wU_mem (hus k hk)))) (wU_mem (by decide))
  · obtain ⟨e1, e2, e3⟩ := hU 11 u11 0 s
    obtain ⟨f1, f2, f3⟩ := h.2.2.2.1 s hs
    have q : ¬ (11 = k0 ∧ 0 = mC M' k0) := fun q => h11 q.1.symm
    rw [mI_sR, mJ_sR, mR_sR, e1, e2, e3, mI_sNew, mJ_sNew, mR_sNew, if_neg q, if_neg q, if_neg q, f1, f2, f3]
    by_cases e : s = j
    · subst e
      refine ⟨?_, rfl, ?_⟩
      · rw [if_neg (Nat.lt_irrefl _), if_pos (Nat.lt_succ_self _), hiI]
      · rw [if_pos ⟨rfl, rfl, rfl⟩, if_pos (Nat.lt_succ_self _), hiR]
    · refine ⟨?_, rfl, ?_⟩
      · by_cases g : s < j
        · rw [if_pos g, if_pos (Nat.lt_succ_of_lt g)]
        · rw [if_neg g, if_neg (by omega)]
      · rw [if_neg (fun q => e q.2.2)]
        by_cases g : s < j
        · rw [if_pos g, if_pos (Nat.lt_succ_of_lt g)]
        · rw [if_neg g, if_neg (by omega)]
  · obtain ⟨e1, e2, e3⟩ := hU 64 u64 0 s
    have q : ¬ (64 = k0 ∧ 0 = mC M' k0) := fun q => h64 q.1.symm
    have q2 : ¬ (64 = 11 ∧ 0 = 0 ∧ s = j) := fun q => absurd q.1 (by decide)
    rw [mI_sR, mJ_sR, mR_sR, if_neg q2, e1, e2, e3, mI_sNew, mJ_sNew, mR_sNew, if_neg q, if_neg q, if_neg q]
    exact h.2.2.2.2 s
theorem wh_Reader {Ω : Om} {K : Ka} {M : Mem} (hN : ∀ M', WI 8 [29, 52, 51, 50, 49, 8, 4, 65, 64, 63] M M' → GoS Ω false m_WH_init K 60 [some (vR (some (11, 0))), none] [] M' 10 3589) : ∀ M', WI 7 [65, 64, 63] M M' → GoS Ω false m_WH_init K 49 [some (vR (some (11, 0))), none] [] M' 3 2014 := by
  intro M' hA
  have hc : mC M' 4 = 0 := (hA.2.1 4 (by decide)).trans rfl
  refine go_wp ok_WH_init [60] 20 _ _ _ _ _ _ ?_
  conv => whnf
  refine And.intro ⟨Nat.le_of_ble_eq_true rfl, Nat.le_of_ble_eq_true rfl⟩ ?_
  rw [hc]
  conv => whnf
  refine ⟨fun v M2 => v = none ∧ IV M2 ((64, 0) :: (11, 0) :: []) ∧ Cnt [29, 52, 51, 50, 49, 8] (sNew M' 4) M2 ∧ Unch [4, 29, 8, 49, 50, 51, 52] (sNew M' 4) M2, c_Reader_init Ω (sNew M' 4) ((64, 0) :: (11, 0) :: []) _ (IV.new' hA.1 hc) (by rw [← hc]; exact Zer.new) ⟨(hA.cn (k := 49) (by decide) (by decide)).trans rfl, (hA.cn (k := 50) (by decide) (by decide)).trans rfl, (hA.cn (k := 51) (by decide) (by decide)).trans rfl, (hA.cn (k := 52) (by decide) (by decide)).trans rfl, (hA.cn (k := 8) (by decide) (by decide)).trans rfl, (hA.cn (k := 29) (by decide) (by decide)).trans rfl⟩ (fun M' a b c => ⟨rfl, a, b, c⟩), ⟨Nat.le_of_ble_eq_true rfl, Nat.le_of_ble_eq_true rfl⟩, ?_⟩
  rintro v M2 ⟨rfl, hI2, hC2, hU2⟩
  exact hN _ (hA.call (j := 7) (k0 := 4) (by decide) (by decide) (by decide) (by decide) rfl rfl hI2 hC2 hU2 (by decide) (by decide) (by decide))
theorem wh_Solver {Ω : Om} {K : Ka} {M : Mem} (hN : ∀ M', WI 9 [41, 40, 39, 38, 26, 25, 24, 23, 2, 37, 6, 29, 52, 51, 50, 49, 8, 4, 65, 64, 63] M M' → GoS Ω false m_WH_init K 71 [some (vR (some (11, 0))), none] [] M' 21 3696) : ∀ M', WI 8 [29, 52, 51, 50, 49, 8, 4, 65, 64, 63] M M' → GoS Ω false m_WH_init K 60 [some (vR (some (11, 0))), none] [] M' 10 3589 := by
  intro M' hA
  have hc : mC M' 6 = 0 := (hA.2.1 6 (by decide)).trans rfl
  refine go_wp ok_WH_init [71] 20 _ _ _ _ _ _ ?_
  conv => whnf
  refine And.intro ⟨Nat.le_of_ble_eq_true rfl, Nat.le_of_ble_eq_true rfl⟩ ?_
  rw [hc]
  conv => whnf
  refine ⟨fun v M2 => v = none ∧ IV M2 ((64, 0) :: (11, 0) :: []) ∧ Cnt [41, 40, 39, 38, 26, 25, 24, 23, 2, 37] (sNew M' 6) M2 ∧ Unch [6, 37, 38, 39, 40, 41, 2, 23, 24, 25, 26] (sNew M' 6) M2, c_Solver_init Ω (sNew M' 6) ((64, 0) :: (11, 0) :: []) _ (IV.new' hA.1 hc) (by rw [← hc]; exact Zer.new) ⟨(hA.cn (k := 37) (by decide) (by decide)).trans rfl, (hA.cn (k := 38) (by decide) (by decide)).trans rfl, (hA.cn (k := 39) (by decide) (by decide)).trans rfl, (hA.cn (k := 40) (by decide) (by decide)).trans rfl, (hA.cn (k := 41) (by decide) (by decide)).trans rfl, (hA.cn (k := 2) (by decide) (by decide)).trans rfl, (hA.cn (k := 23) (by decide) (by decide)).trans rfl, (hA.cn (k := 24) (by decide) (by decide)).trans rfl, (hA.cn (k := 25) (by decide) (by decide)).trans rfl, (hA.cn (k := 26) (by decide) (by decide)).trans rfl⟩ (fun M' a b c => ⟨rfl, a, b, c⟩), ⟨Nat.le_of_ble_eq_true rfl, Nat.le_of_ble_eq_true rfl⟩, ?_⟩
  rintro v M2 ⟨rfl, hI2, hC2, hU2⟩
  exact hN _ (hA.call (j := 8) (k0 := 6) (by decide) (by decide) (by decide) (by decide) rfl rfl hI2 hC2 hU2 (by decide) (by decide) (by decide))
theorem wh_Trials {Ω : Om} {K : Ka} {M : Mem} (hN : ∀ M', WI 10 [56, 55, 54, 53, 26, 25, 24, 23, 2, 9, 41, 40, 39, 38, 26, 25, 24, 23, 2, 37, 6, 29, 52, 51, 50, 49, 8, 4, 65, 64, 63] M M' → GoS Ω false m_WH_init K 86 [some (vR (some (11, 0))), none] [] M' 31 3993) : ∀ M', WI 9 [41, 40, 39, 38, 26, 25, 24, 23, 2, 37, 6, 29, 52, 51, 50, 49, 8, 4, 65, 64, 63] M M' → GoS Ω false m_WH_init K 71 [some (vR (some (11, 0))), none] [] M' 21 3696 := by
  intro M' hA
  have hc : mC M' 9 = 0 := (hA.2.1 9 (by decide)).trans rfl
  refine go_wp ok_WH_init [86] 20 _ _ _ _ _ _ ?_
  conv => whnf
  refine And.intro ⟨Nat.le_of_ble_eq_true rfl, Nat.le_of_ble_eq_true rfl⟩ ?_
  rw [hc]
  conv => whnf
  rw [show rR false (sNew M' 9) 11 0 8 = some (6, 0) from by
    show mR (sNew M' 9) 11 0 8 = _
    rw [mR_sNew, if_neg (fun q => absurd q.1 (by decide))]
    exact (hA.2.2.2.1 8 (by decide)).2.2.trans rfl]
  conv => whnf
  refine ⟨fun v M2 => v = none ∧ IV M2 ((64, 0) :: (11, 0) :: []) ∧ Cnt [56, 55, 54, 53, 26, 25, 24, 23, 2] (sNew M' 9) M2 ∧ Unch [9, 53, 54, 55, 56, 2, 23, 24, 25, 26] (sNew M' 9) M2, c_Trials_init Ω (sNew M' 9) ((64, 0) :: (11, 0) :: []) _ (IV.new' hA.1 hc) (by rw [← hc]; exact Zer.new) ⟨(hA.cn (k := 53) (by decide) (by decide)).trans rfl, (hA.cn (k := 54) (by decide) (by decide)).trans rfl, (hA.cn (k := 55) (by decide) (by decide)).trans rfl, (hA.cn (k := 56) (by decide) (by decide)).trans rfl, (hA.cn (k := 2) (by decide) (by decide)).trans rfl, (hA.cn (k := 23) (by decide) (by decide)).trans rfl, (hA.cn (k := 24) (by decide) (by decide)).trans rfl, (hA.cn (k := 25) (by decide) (by decide)).trans rfl, (hA.cn (k := 26) (by decide) (by decide)).trans rfl⟩ (fun M' a b c => ⟨rfl, a, b, c⟩), ⟨Nat.le_of_ble_eq_true rfl, Nat.le_of_ble_eq_true rfl⟩, ?_⟩
  rintro v M2 ⟨rfl, hI2, hC2, hU2⟩
  exact hN _ (hA.call (j := 9) (k0 := 9) (by decide) (by decide) (by decide) (by decide) rfl rfl hI2 hC2 hU2 (by decide) (by decide) (by decide))
theorem wh_Best {Ω : Om} {K : Ka} {M : Mem} (hN : ∀ M', WI 11 [22, 21, 20, 19, 18, 1, 56, 55, 54, 53, 26, 25, 24, 23, 2, 9, 41, 40, 39, 38, 26, 25, 24, 23, 2, 37, 6, 29, 52, 51, 50, 49, 8, 4, 65, 64, 63] M M' → GoS Ω false m_WH_init K 101 [some (vR (some (11, 0))), none] [] M' 37 4028) : ∀ M', WI 10 [56, 55, 54, 53, 26, 25, 24, 23, 2, 9, 41, 40, 39, 38, 26, 25, 24, 23, 2, 37, 6, 29, 52, 51, 50, 49, 8, 4, 65, 64, 63] M M' → GoS Ω false m_WH_init K 86 [some (vR (some (11, 0))), none] [] M' 31 3993 := by
  intro M' hA
  have hc : mC M' 1 = 0 := (hA.2.1 1 (by decide)).trans rfl
  refine go_wp ok_WH_init [101] 20 _ _ _ _ _ _ ?_
  conv => whnf
  refine And.intro ⟨Nat.le_of_ble_eq_true rfl, Nat.le_of_ble_eq_true rfl⟩ ?_
  rw [hc]
  conv => whnf
  rw [show rR false (sNew M' 1) 11 0 8 = some (6, 0) from by
    show mR (sNew M' 1) 11 0 8 = _
    rw [mR_sNew, if_neg (fun q => absurd q.1 (by decide))]
    exact (hA.2.2.2.1 8 (by decide)).2.2.trans rfl]
  conv => whnf
  refine ⟨fun v M2 => v = none ∧ IV M2 ((64, 0) :: (11, 0) :: []) ∧ Cnt [22, 21, 20, 19, 18] (sNew M' 1) M2 ∧ Unch [1, 18, 19, 20, 21, 22] (sNew M' 1) M2, c_Best_init Ω (sNew M' 1) ((64, 0) :: (11, 0) :: []) _ (IV.new' hA.1 hc) (by rw [← hc]; exact Zer.new) ⟨(hA.cn (k := 18) (by decide) (by decide)).trans rfl, (hA.cn (k := 19) (by decide) (by decide)).trans rfl, (hA.cn (k := 20) (by decide) (by decide)).trans rfl, (hA.cn (k := 21) (by decide) (by decide)).trans rfl, (hA.cn (k := 22) (by decide) (by decide)).trans rfl⟩ (fun M' a b c => ⟨rfl, a, b, c⟩), ⟨Nat.le_of_ble_eq_true rfl, Nat.le_of_ble_eq_true rfl⟩, ?_⟩
  rintro v M2 ⟨rfl, hI2, hC2, hU2⟩
  exact hN _ (hA.call (j := 10) (k0 := 1) (by decide) (by decide) (by decide) (by decide) rfl rfl hI2 hC2 hU2 (by decide) (by decide) (by decide))
theorem wh_Runs {Ω : Om} {K : Ka} {M : Mem} (hN : ∀ M', WI 12 [36, 35, 34, 33, 32, 31, 30, 5, 22, 21, 20, 19, 18, 1, 56, 55, 54, 53, 26, 25, 24, 23, 2, 9, 41, 40, 39, 38, 26, 25, 24, 23, 2, 37, 6, 29, 52, 51, 50, 49, 8, 4, 65, 64, 63] M M' → GoS Ω false m_WH_init K 116 [some (vR (some (11, 0))), none] [] M' 45 4401) : ∀ M', WI 11 [22, 21, 20, 19, 18, 1, 56, 55, 54, 53, 26, 25, 24, 23, 2, 9, 41, 40, 39, 38, 26, 25, 24, 23, 2, 37, 6, 29, 52, 51, 50, 49, 8, 4, 65, 64, 63] M M' → GoS Ω false m_WH_init K 101 [some (vR (some (11, 0))), none] [] M' 37 4028 := by
  intro M' hA
  have hc : mC M' 5 = 0 := (hA.2.1 5 (by decide)).trans rfl
  refine go_wp ok_WH_init [116] 20 _ _ _ _ _ _ ?_
  conv => whnf
  refine And.intro ⟨Nat.le_of_ble_eq_true rfl, Nat.le_of_ble_eq_true rfl⟩ ?_
  rw [hc]
  conv => whnf
  rw [show rR false (sNew M' 5) 11 0 8 = some (6, 0) from by
    show mR (sNew M' 5) 11 0 8 = _
    rw [mR_sNew, if_neg (fun q => absurd q.1 (by decide))]
    exact (hA.2.2.2.1 8 (by decide)).2.2.trans rfl]
  conv => whnf
  refine ⟨fun v M2 => v = none ∧ IV M2 ((64, 0) :: (11, 0) :: []) ∧ Cnt [36, 35, 34, 33, 32, 31, 30] (sNew M' 5) M2 ∧ Unch [5, 30, 31, 32, 33, 34, 35, 36] (sNew M' 5) M2, c_Runs_init Ω (sNew M' 5) ((64, 0) :: (11, 0) :: []) _ (IV.new' hA.1 hc) (by rw [← hc]; exact Zer.new) ⟨(hA.cn (k := 30) (by decide) (by decide)).trans rfl, (hA.cn (k := 31) (by decide) (by decide)).trans rfl, (hA.cn (k := 32) (by decide) (by decide)).trans rfl, (hA.cn (k := 33) (by decide) (by decide)).trans rfl, (hA.cn (k := 34) (by decide) (by decide)).trans rfl, (hA.cn (k := 35) (by decide) (by decide)).trans rfl, (hA.cn (k := 36) (by decide) (by decide)).trans rfl⟩ (fun M' a b c => ⟨rfl, a, b, c⟩), ⟨Nat.le_of_ble_eq_true rfl, Nat.le_of_ble_eq_true rfl⟩, ?_⟩
  rintro v M2 ⟨rfl, hI2, hC2, hU2⟩
  exact hN _ (hA.call (j := 11) (k0 := 5) (by decide) (by decide) (by decide) (by decide) rfl rfl hI2 hC2 hU2 (by decide) (by decide) (by decide))
