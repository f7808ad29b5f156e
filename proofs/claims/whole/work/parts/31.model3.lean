/-! THE MODEL'S CONSTRUCTOR, III: its keys, its last loop -/
/-- when w keys are set -/
def MW (op : List (Nat × Nat)) (w : Nat) (M M' : Mem) : Prop :=
  IV M' ((132, 0) :: (73, 0) :: (12, 0) :: op) ∧ (∀ k, mC M' k = mC M k + cond (Nat.ble 67 k && Nat.ble (k + 1) 141) 1 0) ∧ Unch mdU M M' ∧ Fine M' 12 0 ∧ (∀ s, mI M' 73 0 s = 0 ∧ mR M' 73 0 s = none ∧ mJ M' 73 0 s = if s < w then iJ 73 s else 0) ∧ Zer M' 132 0
theorem MW.zero {op : List (Nat × Nat)} {M M' : Mem} (h : MA op true 74 M M') : MW op 0 M M' :=
  ⟨h.iv, h.ct, h.un, fun s hs => ⟨(h.rw_ s hs).1, (h.rw_ s hs).2.1, (h.rw_ s hs).2.2.trans (mdF_ends hs).2⟩, fun s => ⟨(h.z7 (by decide) s).1, (h.z7 (by decide) s).2.2, by rw [if_neg (Nat.not_lt_zero _)]; exact (h.z7 (by decide) s).2.1⟩, h.zb (by decide)⟩
theorem mdU_73 : 73 ∈ mdU := mdU_mem (j := 6) (by decide)
theorem mdU_132 : 132 ∈ mdU := mdU_mem (j := 65) (by decide)
theorem MW.step {op : List (Nat × Nat)} {w : Nat} {M M' : Mem} {x : Int64} (h : MW op w M M') (hx : x = iJ 73 w) : MW op (w + 1) M (sJ M' 73 0 w x) := by
  obtain ⟨h1, h2, h3, h4, h5, h6⟩ := h
  refine ⟨IV.putJ h1 (by simp), h2, Unch.putJ h3 mdU_73, fun s hs => ?_, fun s => ⟨(h5 s).1, (h5 s).2.1, ?_⟩, fun s => ?_⟩
  · rw [mJ_sJ, if_neg (fun q => absurd q.1 (by decide))]
    exact h4 s hs
  · rw [mJ_sJ]
    by_cases e : s = w
    · subst e
      rw [if_pos ⟨rfl, rfl, rfl⟩, if_pos (Nat.lt_succ_self _), hx]
    · rw [if_neg (fun q => e q.2.2), (h5 s).2.2]
      by_cases g : s < w
      · rw [if_pos g, if_pos (Nat.lt_succ_of_lt g)]
      · rw [if_neg g, if_neg (by omega)]
  · rw [mJ_sJ, if_neg (fun q => absurd q.1 (by decide))]
    exact h6 s
theorem sw_0 {Ω : Om} {K : Ka} {M : Mem} {op : List (Nat × Nat)} (hN : ∀ M', MW op 1 M M' → GoS Ω false m_MD_init K 645 [some (vR (some (12, 0))), none] [] M' 74 21630) : ∀ M', MW op 0 M M' → GoS Ω false m_MD_init K 626 [some (vR (some (12, 0))), none] [] M' 74 21630 := by
  intro M' hA
  refine go_wp ok_MD_init [645] 14 _ _ _ _ _ _ ?_
  conv => whnf
  rw [show rR false M' 12 0 9 = some (73, 0) from (hA.2.2.2.1 9 (by decide)).2.2]
  conv => whnf
  refine cl_use (fun K h => c_MD_word Ω M' _ _ _ _ _ _ _ K h) ⟨Nat.le_of_ble_eq_true rfl, Nat.le_of_ble_eq_true rfl⟩ ?_
  conv => whnf
  refine And.intro (vp_in_nI (n := 0) (N := 22) (by decide) (by decide)) ?_
  exact hN _ (hA.step (w := 0) (show mdWord 108 97 119 0 0 0 0 = iJ 73 0 by decide +kernel))
theorem sw_1 {Ω : Om} {K : Ka} {M : Mem} {op : List (Nat × Nat)} (hN : ∀ M', MW op 2 M M' → GoS Ω false m_MD_init K 665 [some (vR (some (12, 0))), none] [] M' 74 21630) : ∀ M', MW op 1 M M' → GoS Ω false m_MD_init K 645 [some (vR (some (12, 0))), none] [] M' 74 21630 := by
  intro M' hA
  refine go_wp ok_MD_init [665] 14 _ _ _ _ _ _ ?_
  conv => whnf
  rw [show rR false M' 12 0 9 = some (73, 0) from (hA.2.2.2.1 9 (by decide)).2.2]
  conv => whnf
  refine cl_use (fun K h => c_MD_word Ω M' _ _ _ _ _ _ _ K h) ⟨Nat.le_of_ble_eq_true rfl, Nat.le_of_ble_eq_true rfl⟩ ?_
  conv => whnf
  refine And.intro (vp_in_nI (n := 1) (N := 22) (by decide) (by decide)) ?_
  exact hN _ (hA.step (w := 1) (show mdWord 100 114 97 103 0 0 0 = iJ 73 1 by decide +kernel))
theorem sw_2 {Ω : Om} {K : Ka} {M : Mem} {op : List (Nat × Nat)} (hN : ∀ M', MW op 3 M M' → GoS Ω false m_MD_init K 686 [some (vR (some (12, 0))), none] [] M' 74 21630) : ∀ M', MW op 2 M M' → GoS Ω false m_MD_init K 665 [some (vR (some (12, 0))), none] [] M' 74 21630 := by
  intro M' hA
  refine go_wp ok_MD_init [686] 14 _ _ _ _ _ _ ?_
  conv => whnf
  rw [show rR false M' 12 0 9 = some (73, 0) from (hA.2.2.2.1 9 (by decide)).2.2]
  conv => whnf
  refine cl_use (fun K h => c_MD_word Ω M' _ _ _ _ _ _ _ K h) ⟨Nat.le_of_ble_eq_true rfl, Nat.le_of_ble_eq_true rfl⟩ ?_
  conv => whnf
  refine And.intro (vp_in_nI (n := 2) (N := 22) (by decide) (by decide)) ?_
  exact hN _ (hA.step (w := 2) (show mdWord 104 105 110 103 101 0 0 = iJ 73 2 by decide +kernel))
theorem sw_3 {Ω : Om} {K : Ka} {M : Mem} {op : List (Nat × Nat)} (hN : ∀ M', MW op 4 M M' → GoS Ω false m_MD_init K 706 [some (vR (some (12, 0))), none] [] M' 74 21630) : ∀ M', MW op 3 M M' → GoS Ω false m_MD_init K 686 [some (vR (some (12, 0))), none] [] M' 74 21630 := by
  intro M' hA
  refine go_wp ok_MD_init [706] 14 _ _ _ _ _ _ ?_
  conv => whnf
  rw [show rR false M' 12 0 9 = some (73, 0) from (hA.2.2.2.1 9 (by decide)).2.2]
  conv => whnf
  refine cl_use (fun K h => c_MD_word Ω M' _ _ _ _ _ _ _ K h) ⟨Nat.le_of_ble_eq_true rfl, Nat.le_of_ble_eq_true rfl⟩ ?_
  conv => whnf
  refine And.intro (vp_in_nI (n := 3) (N := 22) (by decide) (by decide)) ?_
  exact hN _ (hA.step (w := 3) (show mdWord 119 105 110 103 0 0 0 = iJ 73 3 by decide +kernel))
theorem sw_4 {Ω : Om} {K : Ka} {M : Mem} {op : List (Nat × Nat)} (hN : ∀ M', MW op 5 M M' → GoS Ω false m_MD_init K 725 [some (vR (some (12, 0))), none] [] M' 74 21630) : ∀ M', MW op 4 M M' → GoS Ω false m_MD_init K 706 [some (vR (some (12, 0))), none] [] M' 74 21630 := by
  intro M' hA
  refine go_wp ok_MD_init [725] 14 _ _ _ _ _ _ ?_
  conv => whnf
  rw [show rR false M' 12 0 9 = some (73, 0) from (hA.2.2.2.1 9 (by decide)).2.2]
  conv => whnf
  refine cl_use (fun K h => c_MD_word Ω M' _ _ _ _ _ _ _ K h) ⟨Nat.le_of_ble_eq_true rfl, Nat.le_of_ble_eq_true rfl⟩ ?_
  conv => whnf
  refine And.intro (vp_in_nI (n := 4) (N := 22) (by decide) (by decide)) ?_
  exact hN _ (hA.step (w := 4) (show mdWord 98 97 114 0 0 0 0 = iJ 73 4 by decide +kernel))
theorem sw_5 {Ω : Om} {K : Ka} {M : Mem} {op : List (Nat × Nat)} (hN : ∀ M', MW op 6 M M' → GoS Ω false m_MD_init K 745 [some (vR (some (12, 0))), none] [] M' 74 21630) : ∀ M', MW op 5 M M' → GoS Ω false m_MD_init K 725 [some (vR (some (12, 0))), none] [] M' 74 21630 := by
  intro M' hA
  refine go_wp ok_MD_init [745] 14 _ _ _ _ _ _ ?_
  conv => whnf
  rw [show rR false M' 12 0 9 = some (73, 0) from (hA.2.2.2.1 9 (by decide)).2.2]
  conv => whnf
  refine cl_use (fun K h => c_MD_word Ω M' _ _ _ _ _ _ _ K h) ⟨Nat.le_of_ble_eq_true rfl, Nat.le_of_ble_eq_true rfl⟩ ?_
  conv => whnf
  refine And.intro (vp_in_nI (n := 5) (N := 22) (by decide) (by decide)) ?_
  exact hN _ (hA.step (w := 5) (show mdWord 100 101 101 112 0 0 0 = iJ 73 5 by decide +kernel))
theorem sw_6 {Ω : Om} {K : Ka} {M : Mem} {op : List (Nat × Nat)} (hN : ∀ M', MW op 7 M M' → GoS Ω false m_MD_init K 767 [some (vR (some (12, 0))), none] [] M' 74 21630) : ∀ M', MW op 6 M M' → GoS Ω false m_MD_init K 745 [some (vR (some (12, 0))), none] [] M' 74 21630 := by
  intro M' hA
  refine go_wp ok_MD_init [767] 14 _ _ _ _ _ _ ?_
  conv => whnf
  rw [show rR false M' 12 0 9 = some (73, 0) from (hA.2.2.2.1 9 (by decide)).2.2]
  conv => whnf
  refine cl_use (fun K h => c_MD_word Ω M' _ _ _ _ _ _ _ K h) ⟨Nat.le_of_ble_eq_true rfl, Nat.le_of_ble_eq_true rfl⟩ ?_
  conv => whnf
  refine And.intro (vp_in_nI (n := 6) (N := 22) (by decide) (by decide)) ?_
  exact hN _ (hA.step (w := 6) (show mdWord 115 116 105 102 102 0 0 = iJ 73 6 by decide +kernel))
theorem sw_7 {Ω : Om} {K : Ka} {M : Mem} {op : List (Nat × Nat)} (hN : ∀ M', MW op 8 M M' → GoS Ω false m_MD_init K 789 [some (vR (some (12, 0))), none] [] M' 74 21630) : ∀ M', MW op 7 M M' → GoS Ω false m_MD_init K 767 [some (vR (some (12, 0))), none] [] M' 74 21630 := by
  intro M' hA
  refine go_wp ok_MD_init [789] 14 _ _ _ _ _ _ ?_
  conv => whnf
  rw [show rR false M' 12 0 9 = some (73, 0) from (hA.2.2.2.1 9 (by decide)).2.2]
  conv => whnf
  refine cl_use (fun K h => c_MD_word Ω M' _ _ _ _ _ _ _ K h) ⟨Nat.le_of_ble_eq_true rfl, Nat.le_of_ble_eq_true rfl⟩ ?_
  conv => whnf
  refine And.intro (vp_in_nI (n := 7) (N := 22) (by decide) (by decide)) ?_
  exact hN _ (hA.step (w := 7) (show mdWord 115 119 101 101 112 0 0 = iJ 73 7 by decide +kernel))
theorem sw_8 {Ω : Om} {K : Ka} {M : Mem} {op : List (Nat × Nat)} (hN : ∀ M', MW op 9 M M' → GoS Ω false m_MD_init K 810 [some (vR (some (12, 0))), none] [] M' 74 21630) : ∀ M', MW op 8 M M' → GoS Ω false m_MD_init K 789 [some (vR (some (12, 0))), none] [] M' 74 21630 := by
  intro M' hA
  refine go_wp ok_MD_init [810] 14 _ _ _ _ _ _ ?_
  conv => whnf
  rw [show rR false M' 12 0 9 = some (73, 0) from (hA.2.2.2.1 9 (by decide)).2.2]
  conv => whnf
  refine cl_use (fun K h => c_MD_word Ω M' _ _ _ _ _ _ _ K h) ⟨Nat.le_of_ble_eq_true rfl, Nat.le_of_ble_eq_true rfl⟩ ?_
  conv => whnf
  refine And.intro (vp_in_nI (n := 8) (N := 22) (by decide) (by decide)) ?_
  exact hN _ (hA.step (w := 8) (show mdWord 109 97 115 115 0 0 0 = iJ 73 8 by decide +kernel))
theorem sw_9 {Ω : Om} {K : Ka} {M : Mem} {op : List (Nat × Nat)} (hN : ∀ M', MW op 10 M M' → GoS Ω false m_MD_init K 829 [some (vR (some (12, 0))), none] [] M' 74 21630) : ∀ M', MW op 9 M M' → GoS Ω false m_MD_init K 810 [some (vR (some (12, 0))), none] [] M' 74 21630 := by
  intro M' hA
  refine go_wp ok_MD_init [829] 14 _ _ _ _ _ _ ?_
  conv => whnf
  rw [show rR false M' 12 0 9 = some (73, 0) from (hA.2.2.2.1 9 (by decide)).2.2]
  conv => whnf
  refine cl_use (fun K h => c_MD_word Ω M' _ _ _ _ _ _ _ K h) ⟨Nat.le_of_ble_eq_true rfl, Nat.le_of_ble_eq_true rfl⟩ ?_
  conv => whnf
  refine And.intro (vp_in_nI (n := 9) (N := 22) (by decide) (by decide)) ?_
  exact hN _ (hA.step (w := 9) (show mdWord 111 110 0 0 0 0 0 = iJ 73 9 by decide +kernel))
theorem sw_10 {Ω : Om} {K : Ka} {M : Mem} {op : List (Nat × Nat)} (hN : ∀ M', MW op 11 M M' → GoS Ω false m_MD_init K 848 [some (vR (some (12, 0))), none] [] M' 74 21630) : ∀ M', MW op 10 M M' → GoS Ω false m_MD_init K 829 [some (vR (some (12, 0))), none] [] M' 74 21630 := by
  intro M' hA
  refine go_wp ok_MD_init [848] 14 _ _ _ _ _ _ ?_
  conv => whnf
  rw [show rR false M' 12 0 9 = some (73, 0) from (hA.2.2.2.1 9 (by decide)).2.2]
  conv => whnf
  refine cl_use (fun K h => c_MD_word Ω M' _ _ _ _ _ _ _ K h) ⟨Nat.le_of_ble_eq_true rfl, Nat.le_of_ble_eq_true rfl⟩ ?_
  conv => whnf
  refine And.intro (vp_in_nI (n := 10) (N := 22) (by decide) (by decide)) ?_
  exact hN _ (hA.step (w := 10) (show mdWord 105 102 0 0 0 0 0 = iJ 73 10 by decide +kernel))
theorem sw_11 {Ω : Om} {K : Ka} {M : Mem} {op : List (Nat × Nat)} (hN : ∀ M', MW op 12 M M' → GoS Ω false m_MD_init K 867 [some (vR (some (12, 0))), none] [] M' 74 21630) : ∀ M', MW op 11 M M' → GoS Ω false m_MD_init K 848 [some (vR (some (12, 0))), none] [] M' 74 21630 := by
  intro M' hA
  refine go_wp ok_MD_init [867] 14 _ _ _ _ _ _ ?_
  conv => whnf
  rw [show rR false M' 12 0 9 = some (73, 0) from (hA.2.2.2.1 9 (by decide)).2.2]
  conv => whnf
  refine cl_use (fun K h => c_MD_word Ω M' _ _ _ _ _ _ _ K h) ⟨Nat.le_of_ble_eq_true rfl, Nat.le_of_ble_eq_true rfl⟩ ?_
  conv => whnf
  refine And.intro (vp_in_nI (n := 11) (N := 22) (by decide) (by decide)) ?_
  exact hN _ (hA.step (w := 11) (show mdWord 111 114 0 0 0 0 0 = iJ 73 11 by decide +kernel))
theorem sw_12 {Ω : Om} {K : Ka} {M : Mem} {op : List (Nat × Nat)} (hN : ∀ M', MW op 13 M M' → GoS Ω false m_MD_init K 887 [some (vR (some (12, 0))), none] [] M' 74 21630) : ∀ M', MW op 12 M M' → GoS Ω false m_MD_init K 867 [some (vR (some (12, 0))), none] [] M' 74 21630 := by
  intro M' hA
  refine go_wp ok_MD_init [887] 14 _ _ _ _ _ _ ?_
  conv => whnf
  rw [show rR false M' 12 0 9 = some (73, 0) from (hA.2.2.2.1 9 (by decide)).2.2]
  conv => whnf
  refine cl_use (fun K h => c_MD_word Ω M' _ _ _ _ _ _ _ K h) ⟨Nat.le_of_ble_eq_true rfl, Nat.le_of_ble_eq_true rfl⟩ ?_
  conv => whnf
  refine And.intro (vp_in_nI (n := 12) (N := 22) (by decide) (by decide)) ?_
  exact hN _ (hA.step (w := 12) (show mdWord 97 110 100 0 0 0 0 = iJ 73 12 by decide +kernel))
theorem sw_13 {Ω : Om} {K : Ka} {M : Mem} {op : List (Nat × Nat)} (hN : ∀ M', MW op 14 M M' → GoS Ω false m_MD_init K 907 [some (vR (some (12, 0))), none] [] M' 74 21630) : ∀ M', MW op 13 M M' → GoS Ω false m_MD_init K 887 [some (vR (some (12, 0))), none] [] M' 74 21630 := by
  intro M' hA
  refine go_wp ok_MD_init [907] 14 _ _ _ _ _ _ ?_
  conv => whnf
  rw [show rR false M' 12 0 9 = some (73, 0) from (hA.2.2.2.1 9 (by decide)).2.2]
  conv => whnf
  refine cl_use (fun K h => c_MD_word Ω M' _ _ _ _ _ _ _ K h) ⟨Nat.le_of_ble_eq_true rfl, Nat.le_of_ble_eq_true rfl⟩ ?_
  conv => whnf
  refine And.intro (vp_in_nI (n := 13) (N := 22) (by decide) (by decide)) ?_
  exact hN _ (hA.step (w := 13) (show mdWord 110 111 116 0 0 0 0 = iJ 73 13 by decide +kernel))
theorem sw_14 {Ω : Om} {K : Ka} {M : Mem} {op : List (Nat × Nat)} (hN : ∀ M', MW op 15 M M' → GoS Ω false m_MD_init K 929 [some (vR (some (12, 0))), none] [] M' 74 21630) : ∀ M', MW op 14 M M' → GoS Ω false m_MD_init K 907 [some (vR (some (12, 0))), none] [] M' 74 21630 := by
  intro M' hA
  refine go_wp ok_MD_init [929] 14 _ _ _ _ _ _ ?_
  conv => whnf
  rw [show rR false M' 12 0 9 = some (73, 0) from (hA.2.2.2.1 9 (by decide)).2.2]
  conv => whnf
  refine cl_use (fun K h => c_MD_word Ω M' _ _ _ _ _ _ _ K h) ⟨Nat.le_of_ble_eq_true rfl, Nat.le_of_ble_eq_true rfl⟩ ?_
  conv => whnf
  refine And.intro (vp_in_nI (n := 14) (N := 22) (by decide) (by decide)) ?_
  exact hN _ (hA.step (w := 14) (show mdWord 115 108 97 110 116 0 0 = iJ 73 14 by decide +kernel))
theorem sw_15 {Ω : Om} {K : Ka} {M : Mem} {op : List (Nat × Nat)} (hN : ∀ M', MW op 16 M M' → GoS Ω false m_MD_init K 950 [some (vR (some (12, 0))), none] [] M' 74 21630) : ∀ M', MW op 15 M M' → GoS Ω false m_MD_init K 929 [some (vR (some (12, 0))), none] [] M' 74 21630 := by
  intro M' hA
  refine go_wp ok_MD_init [950] 14 _ _ _ _ _ _ ?_
  conv => whnf
  rw [show rR false M' 12 0 9 = some (73, 0) from (hA.2.2.2.1 9 (by decide)).2.2]
  conv => whnf
  refine cl_use (fun K h => c_MD_word Ω M' _ _ _ _ _ _ _ K h) ⟨Nat.le_of_ble_eq_true rfl, Nat.le_of_ble_eq_true rfl⟩ ?_
  conv => whnf
  refine And.intro (vp_in_nI (n := 15) (N := 22) (by decide) (by decide)) ?_
  exact hN _ (hA.step (w := 15) (show mdWord 108 105 102 116 0 0 0 = iJ 73 15 by decide +kernel))
theorem sw_16 {Ω : Om} {K : Ka} {M : Mem} {op : List (Nat × Nat)} (hN : ∀ M', MW op 17 M M' → GoS Ω false m_MD_init K 972 [some (vR (some (12, 0))), none] [] M' 74 21630) : ∀ M', MW op 16 M M' → GoS Ω false m_MD_init K 950 [some (vR (some (12, 0))), none] [] M' 74 21630 := by
  intro M' hA
  refine go_wp ok_MD_init [972] 14 _ _ _ _ _ _ ?_
  conv => whnf
  rw [show rR false M' 12 0 9 = some (73, 0) from (hA.2.2.2.1 9 (by decide)).2.2]
  conv => whnf
  refine cl_use (fun K h => c_MD_word Ω M' _ _ _ _ _ _ _ K h) ⟨Nat.le_of_ble_eq_true rfl, Nat.le_of_ble_eq_true rfl⟩ ?_
  conv => whnf
  refine And.intro (vp_in_nI (n := 16) (N := 22) (by decide) (by decide)) ?_
  exact hN _ (hA.step (w := 16) (show mdWord 119 105 100 116 104 0 0 = iJ 73 16 by decide +kernel))
theorem sw_17 {Ω : Om} {K : Ka} {M : Mem} {op : List (Nat × Nat)} (hN : ∀ M', MW op 18 M M' → GoS Ω false m_MD_init K 994 [some (vR (some (12, 0))), none] [] M' 74 21630) : ∀ M', MW op 17 M M' → GoS Ω false m_MD_init K 972 [some (vR (some (12, 0))), none] [] M' 74 21630 := by
  intro M' hA
  refine go_wp ok_MD_init [994] 14 _ _ _ _ _ _ ?_
  conv => whnf
  rw [show rR false M' 12 0 9 = some (73, 0) from (hA.2.2.2.1 9 (by decide)).2.2]
  conv => whnf
  refine cl_use (fun K h => c_MD_word Ω M' _ _ _ _ _ _ _ K h) ⟨Nat.le_of_ble_eq_true rfl, Nat.le_of_ble_eq_true rfl⟩ ?_
  conv => whnf
  refine And.intro (vp_in_nI (n := 17) (N := 22) (by decide) (by decide)) ?_
  exact hN _ (hA.step (w := 17) (show mdWord 116 119 105 115 116 0 0 = iJ 73 17 by decide +kernel))
theorem sw_18 {Ω : Om} {K : Ka} {M : Mem} {op : List (Nat × Nat)} (hN : ∀ M', MW op 19 M M' → GoS Ω false m_MD_init K 1013 [some (vR (some (12, 0))), none] [] M' 74 21630) : ∀ M', MW op 18 M M' → GoS Ω false m_MD_init K 994 [some (vR (some (12, 0))), none] [] M' 74 21630 := by
  intro M' hA
  refine go_wp ok_MD_init [1013] 14 _ _ _ _ _ _ ?_
  conv => whnf
  rw [show rR false M' 12 0 9 = some (73, 0) from (hA.2.2.2.1 9 (by decide)).2.2]
  conv => whnf
  refine cl_use (fun K h => c_MD_word Ω M' _ _ _ _ _ _ _ K h) ⟨Nat.le_of_ble_eq_true rfl, Nat.le_of_ble_eq_true rfl⟩ ?_
  conv => whnf
  refine And.intro (vp_in_nI (n := 18) (N := 22) (by decide) (by decide)) ?_
  exact hN _ (hA.step (w := 18) (show mdWord 97 116 0 0 0 0 0 = iJ 73 18 by decide +kernel))
theorem sw_19 {Ω : Om} {K : Ka} {M : Mem} {op : List (Nat × Nat)} (hN : ∀ M', MW op 20 M M' → GoS Ω false m_MD_init K 1035 [some (vR (some (12, 0))), none] [] M' 74 21630) : ∀ M', MW op 19 M M' → GoS Ω false m_MD_init K 1013 [some (vR (some (12, 0))), none] [] M' 74 21630 := by
  intro M' hA
  refine go_wp ok_MD_init [1035] 14 _ _ _ _ _ _ ?_
  conv => whnf
  rw [show rR false M' 12 0 9 = some (73, 0) from (hA.2.2.2.1 9 (by decide)).2.2]
  conv => whnf
  refine cl_use (fun K h => c_MD_word Ω M' _ _ _ _ _ _ _ K h) ⟨Nat.le_of_ble_eq_true rfl, Nat.le_of_ble_eq_true rfl⟩ ?_
  conv => whnf
  refine And.intro (vp_in_nI (n := 19) (N := 22) (by decide) (by decide)) ?_
  exact hN _ (hA.step (w := 19) (show mdWord 115 112 101 101 100 0 0 = iJ 73 19 by decide +kernel))
theorem sw_20 {Ω : Om} {K : Ka} {M : Mem} {op : List (Nat × Nat)} (hN : ∀ M', MW op 21 M M' → GoS Ω false m_MD_init K 1056 [some (vR (some (12, 0))), none] [] M' 74 21630) : ∀ M', MW op 20 M M' → GoS Ω false m_MD_init K 1035 [some (vR (some (12, 0))), none] [] M' 74 21630 := by
  intro M' hA
  refine go_wp ok_MD_init [1056] 14 _ _ _ _ _ _ ?_
  conv => whnf
  rw [show rR false M' 12 0 9 = some (73, 0) from (hA.2.2.2.1 9 (by decide)).2.2]
  conv => whnf
  refine cl_use (fun K h => c_MD_word Ω M' _ _ _ _ _ _ _ K h) ⟨Nat.le_of_ble_eq_true rfl, Nat.le_of_ble_eq_true rfl⟩ ?_
  conv => whnf
  refine And.intro (vp_in_nI (n := 20) (N := 22) (by decide) (by decide)) ?_
  exact hN _ (hA.step (w := 20) (show mdWord 98 101 110 100 0 0 0 = iJ 73 20 by decide +kernel))
theorem sw_21 {Ω : Om} {K : Ka} {M : Mem} {op : List (Nat × Nat)} (hN : ∀ M', MW op 22 M M' → GoS Ω false m_MD_init K 1077 [some (vR (some (12, 0))), none] [] M' 74 21630) : ∀ M', MW op 21 M M' → GoS Ω false m_MD_init K 1056 [some (vR (some (12, 0))), none] [] M' 74 21630 := by
  intro M' hA
  refine go_wp ok_MD_init [1077] 14 _ _ _ _ _ _ ?_
  conv => whnf
  rw [show rR false M' 12 0 9 = some (73, 0) from (hA.2.2.2.1 9 (by decide)).2.2]
  conv => whnf
  refine cl_use (fun K h => c_MD_word Ω M' _ _ _ _ _ _ _ K h) ⟨Nat.le_of_ble_eq_true rfl, Nat.le_of_ble_eq_true rfl⟩ ?_
  conv => whnf
  refine And.intro (vp_in_nI (n := 21) (N := 22) (by decide) (by decide)) ?_
  exact hN _ (hA.step (w := 21) (show mdWord 100 111 119 110 0 0 0 = iJ 73 21 by decide +kernel))
theorem sw_all {Ω : Om} {K : Ka} {M : Mem} {op : List (Nat × Nat)} (hN : ∀ M', MW op 22 M M' → GoS Ω false m_MD_init K 1077 [some (vR (some (12, 0))), none] [] M' 74 21630) : ∀ M', MW op 0 M M' → GoS Ω false m_MD_init K 626 [some (vR (some (12, 0))), none] [] M' 74 21630 :=
  (sw_0 (sw_1 (sw_2 (sw_3 (sw_4 (sw_5 (sw_6 (sw_7 (sw_8 (sw_9 (sw_10 (sw_11 (sw_12 (sw_13 (sw_14 (sw_15 (sw_16 (sw_17 (sw_18 (sw_19 (sw_20 (sw_21 hN))))))))))))))))))))))
theorem mb_in {j : Nat} (h : j < 10) : vp_in (nI j) 10 := vp_in_nI h (by decide)
theorem j10 {j : Nat} (hj : j ≤ 10) (g : (10 : Int32) ≤ nI j) : j = 10 := by
  rw [show (10 : Int32) = nI 10 from rfl, nI_leI (by omega) (by omega)] at g
  omega
theorem j10n {j : Nat} (hj : j ≤ 10) (g : ¬ (10 : Int32) ≤ nI j) : j < 10 := by
  rw [show (10 : Int32) = nI 10 from rfl, nI_leI (by omega) (by omega)] at g
  omega
/-- when j of the best twists are set -/
def MB (op : List (Nat × Nat)) (j : Nat) (M M' : Mem) : Prop :=
  IV M' ((132, 0) :: op) ∧ (∀ k, mC M' k = mC M k + cond (Nat.ble 67 k && Nat.ble (k + 1) 141) 1 0) ∧ Unch mdU M M' ∧ mR M' 12 0 95 = some (132, 0) ∧ (∀ s, mJ M' 132 0 s = 0 ∧ mR M' 132 0 s = none ∧ mI M' 132 0 s = if s < j then -1000 else 0)
theorem MB.zero {op : List (Nat × Nat)} {M M' : Mem} (h : MW op 22 M M') : MB op 0 M M' := by
  obtain ⟨h1, h2, h3, h4, h5, h6⟩ := h
  refine ⟨IV.close (k := 12) (i := 0) (IV.close (k := 73) (i := 0) (h1.sub (fun q hq => ?_)) ?_) h4, h2, h3, (h4 95 (by decide)).2.2, fun s => ⟨(h6 s).2.1, (h6 s).2.2, ?_⟩⟩
  · simp only [List.mem_cons] at hq ⊢
    rcases hq with h | h | h | h <;> simp [h]
  · intro s hs
    have hs : s < 22 := hs
    refine ⟨(h5 s).1.trans rfl, ?_, (h5 s).2.1.trans rfl⟩
    rw [(h5 s).2.2, if_pos hs]
  · rw [if_neg (Nat.not_lt_zero _)]
    exact (h6 s).1
theorem MB.step {op : List (Nat × Nat)} {j : Nat} {M M' : Mem} (h : MB op j M M') : MB op (j + 1) M (sI M' 132 0 j (-1000)) := by
  obtain ⟨h1, h2, h3, h4, h5⟩ := h
  refine ⟨IV.putI h1 List.mem_cons_self, h2, Unch.putI h3 mdU_132, h4, fun s => ⟨(h5 s).1, (h5 s).2.1, ?_⟩⟩
  rw [mI_sI]
  by_cases e : s = j
  · subst e
    rw [if_pos ⟨rfl, rfl, rfl⟩, if_pos (Nat.lt_succ_self _)]
  · rw [if_neg (fun q => e q.2.2), (h5 s).2.2]
    by_cases g : s < j
    · rw [if_pos g, if_pos (Nat.lt_succ_of_lt g)]
    · rw [if_neg g, if_neg (by omega)]
theorem MB.fin {op : List (Nat × Nat)} {M M' : Mem} (h : MB op 10 M M') : IV M' op := by
  refine IV.close (k := 132) (i := 0) h.1 (fun s hs => ?_)
  have hs : s < 10 := hs
  refine ⟨?_, (h.2.2.2.2 s).1.trans rfl, (h.2.2.2.2 s).2.1.trans rfl⟩
  rw [(h.2.2.2.2 s).2.2, if_pos hs]
  rfl
theorem lp_MD_init {Ω : Om} {K : Ka} {M : Mem} {op : List (Nat × Nat)} (hK : ∀ M', IV M' op → (∀ k, mC M' k = mC M k + cond (Nat.ble 67 k && Nat.ble (k + 1) 141) 1 0) → Unch mdU M M' → K none M') : ∀ (f j : Nat) (M' : Mem), j ≤ 10 → 10 - j ≤ f → MB op j M M' → GoS Ω false m_MD_init K 1079 [some (vR (some (12, 0))), some (vI (nI j))] [] M' 74 21630 := by
  intro f
  induction f with
  | zero =>
    intro j M' hj hf h
    have e : j = 10 := by omega
    subst e
    refine go_wp ok_MD_init [] 20 _ _ _ _ _ _ ?_
    refine br_t (Int32.le_refl _) ?_
    exact hK M' h.fin h.2.1 h.2.2.1
  | succ f ih =>
    intro j M' hj hf h
    refine go_wp ok_MD_init [1079] 20 _ _ _ _ _ _ ?_
    refine And.intro (fun g => ?_) (fun g => ?_)
    · have e : j = 10 := j10 hj g
      subst e
      exact hK M' h.fin h.2.1 h.2.2.1
    · have hlt : j < 10 := j10n hj g
      conv => whnf
      rw [show rR false M' 12 0 95 = some (132, 0) from h.2.2.2.1]
      conv => whnf
      refine And.intro (mb_in hlt) ?_
      rw [nI_clamp (Nat.lt_trans hlt (by decide))]
      have hfin := ih (j + 1) (sI M' 132 0 j (-1000)) hlt (st1 hf) h.step
      rw [← nI_1] at hfin
      exact hfin
theorem c_MD_init (Ω : Om) (M : Mem) (op : List (Nat × Nat)) (K : Ka) (hI : IV M ((12, 0) :: op)) (hz : Zer M 12 0) (hm : ∀ k, 67 ≤ k → k < 141 → mC M k = 0) (hK : ∀ M', IV M' op → (∀ k, mC M' k = mC M k + cond (Nat.ble 67 k && Nat.ble (k + 1) 141) 1 0) → Unch mdU M M' → K none M') : CallS Ω false m_MD_init [vR (some (12, 0))] M K := by
  refine call_go (hJL rfl) (Nat.le_of_ble_eq_true rfl) (go_wp ok_MD_init [4] 50 _ _ _ _ _ _ ?_)
  have h0 : MA op false 0 M M := by
    refine ⟨hI.sub (fun q hq => ?_), fun k => ?_, Unch.rfl, fun s hs => ⟨(hz s).1, (hz s).2.1, (hz s).2.2.trans (mdF_ends hs).1.symm⟩, fun q => absurd q (by decide), fun q => absurd q (by decide)⟩
    · simp only [List.mem_cons] at hq ⊢
      rcases hq with h | h <;> simp [h]
    · cases e : Nat.ble (k + 1) (67 + 0) with
      | false => rw [Bool.and_false]; rfl
      | true =>
        have := Nat.le_of_ble_eq_true e
        rw [ble_no (show ¬ 67 ≤ k by omega)]
        rfl
  refine sg_all hm (fun M1 hA => sw_all (fun M' hW => ?_) M1 (MW.zero hA)) M h0
  refine go_wp ok_MD_init [1079] 10 _ _ _ _ _ _ ?_
  exact lp_MD_init hK 10 0 M' (Nat.zero_le _) (Nat.le_refl _) (MB.zero hW)
