/-! THE MODEL'S CONSTRUCTOR, II: its arrays one by one -/
theorem MA.put {op : List (Nat × Nat)} {M M' : Mem} (h : MA op false 7 M M') : MA op true 7 M (sI (sI M' 12 0 17 (-1)) 12 0 19 (-1)) := by
  refine ⟨IV.putI (IV.putI h.iv (by simp)) (by simp), h.ct, Unch.putI (Unch.putI h.un List.mem_cons_self) List.mem_cons_self, fun s hs => ⟨?_, (h.rw_ s hs).2⟩, h.z7, h.zb⟩
  rw [mI_sI, mI_sI]
  by_cases e : s = 19
  · subst e
    rw [if_pos ⟨rfl, rfl, rfl⟩]; rfl
  · rw [if_neg (fun q => e q.2.2)]
    by_cases e2 : s = 17
    · subst e2
      rw [if_pos ⟨rfl, rfl, rfl⟩]; rfl
    · rw [if_neg (fun q => e2 q.2.2), (h.rw_ s hs).1]
      have : iI 12 s = 0 := by
        show cond (Nat.beq s 17) (-1) (cond (Nat.beq s 19) (-1) 0) = (0 : Int32)
        rw [show Nat.beq s 17 = false from Bool.eq_false_iff.mpr (fun q => e2 (Nat.eq_of_beq_eq_true q)), show Nat.beq s 19 = false from Bool.eq_false_iff.mpr (fun q => e (Nat.eq_of_beq_eq_true q))]
        rfl
      show (0 : Int32) = iI 12 s
      rw [this]
theorem sg_0 {Ω : Om} {K : Ka} {M : Mem} {op : List (Nat × Nat)} (hm : ∀ k, 67 ≤ k → k < 141 → mC M k = 0) (hN : ∀ M', MA op false 1 M M' → GoS Ω false m_MD_init K 13 [some (vR (some (12, 0))), none] [] M' 1 2000) : ∀ M', MA op false 0 M M' → GoS Ω false m_MD_init K 4 [some (vR (some (12, 0))), none] [] M' 0 0 := by
  intro M' hA
  have hc : mC M' 67 = 0 := hA.c0 (j := 0) hm (Nat.le_of_ble_eq_true rfl)
  refine go_wp ok_MD_init [13] 10 _ _ _ _ _ _ ?_
  conv => whnf
  refine And.intro rfl (And.intro ⟨Nat.le_of_ble_eq_true rfl, Nat.le_of_ble_eq_true rfl⟩ ?_)
  rw [hc]
  exact hN _ (hA.step hm (j := 0) (Nat.le_of_ble_eq_true rfl) (Or.inr (Or.inr fun _ _ => ⟨rfl, rfl, rfl⟩)))
theorem sg_1 {Ω : Om} {K : Ka} {M : Mem} {op : List (Nat × Nat)} (hm : ∀ k, 67 ≤ k → k < 141 → mC M k = 0) (hN : ∀ M', MA op false 2 M M' → GoS Ω false m_MD_init K 22 [some (vR (some (12, 0))), none] [] M' 2 4000) : ∀ M', MA op false 1 M M' → GoS Ω false m_MD_init K 13 [some (vR (some (12, 0))), none] [] M' 1 2000 := by
  intro M' hA
  have hc : mC M' 68 = 0 := hA.c0 (j := 1) hm (Nat.le_of_ble_eq_true rfl)
  refine go_wp ok_MD_init [22] 10 _ _ _ _ _ _ ?_
  conv => whnf
  refine And.intro rfl (And.intro ⟨Nat.le_of_ble_eq_true rfl, Nat.le_of_ble_eq_true rfl⟩ ?_)
  rw [hc]
  exact hN _ (hA.step hm (j := 1) (Nat.le_of_ble_eq_true rfl) (Or.inr (Or.inr fun _ _ => ⟨rfl, rfl, rfl⟩)))
theorem sg_2 {Ω : Om} {K : Ka} {M : Mem} {op : List (Nat × Nat)} (hm : ∀ k, 67 ≤ k → k < 141 → mC M k = 0) (hN : ∀ M', MA op false 3 M M' → GoS Ω false m_MD_init K 31 [some (vR (some (12, 0))), none] [] M' 3 4503) : ∀ M', MA op false 2 M M' → GoS Ω false m_MD_init K 22 [some (vR (some (12, 0))), none] [] M' 2 4000 := by
  intro M' hA
  have hc : mC M' 69 = 0 := hA.c0 (j := 2) hm (Nat.le_of_ble_eq_true rfl)
  refine go_wp ok_MD_init [31] 10 _ _ _ _ _ _ ?_
  conv => whnf
  refine And.intro rfl (And.intro ⟨Nat.le_of_ble_eq_true rfl, Nat.le_of_ble_eq_true rfl⟩ ?_)
  rw [hc]
  exact hN _ (hA.step hm (j := 2) (Nat.le_of_ble_eq_true rfl) (Or.inr (Or.inr fun _ _ => ⟨rfl, rfl, rfl⟩)))
theorem sg_3 {Ω : Om} {K : Ka} {M : Mem} {op : List (Nat × Nat)} (hm : ∀ k, 67 ≤ k → k < 141 → mC M k = 0) (hN : ∀ M', MA op false 4 M M' → GoS Ω false m_MD_init K 40 [some (vR (some (12, 0))), none] [] M' 4 5006) : ∀ M', MA op false 3 M M' → GoS Ω false m_MD_init K 31 [some (vR (some (12, 0))), none] [] M' 3 4503 := by
  intro M' hA
  have hc : mC M' 70 = 0 := hA.c0 (j := 3) hm (Nat.le_of_ble_eq_true rfl)
  refine go_wp ok_MD_init [40] 10 _ _ _ _ _ _ ?_
  conv => whnf
  refine And.intro rfl (And.intro ⟨Nat.le_of_ble_eq_true rfl, Nat.le_of_ble_eq_true rfl⟩ ?_)
  rw [hc]
  exact hN _ (hA.step hm (j := 3) (Nat.le_of_ble_eq_true rfl) (Or.inr (Or.inr fun _ _ => ⟨rfl, rfl, rfl⟩)))
theorem sg_4 {Ω : Om} {K : Ka} {M : Mem} {op : List (Nat × Nat)} (hm : ∀ k, 67 ≤ k → k < 141 → mC M k = 0) (hN : ∀ M', MA op false 5 M M' → GoS Ω false m_MD_init K 49 [some (vR (some (12, 0))), none] [] M' 5 5509) : ∀ M', MA op false 4 M M' → GoS Ω false m_MD_init K 40 [some (vR (some (12, 0))), none] [] M' 4 5006 := by
  intro M' hA
  have hc : mC M' 71 = 0 := hA.c0 (j := 4) hm (Nat.le_of_ble_eq_true rfl)
  refine go_wp ok_MD_init [49] 10 _ _ _ _ _ _ ?_
  conv => whnf
  refine And.intro rfl (And.intro ⟨Nat.le_of_ble_eq_true rfl, Nat.le_of_ble_eq_true rfl⟩ ?_)
  rw [hc]
  exact hN _ (hA.step hm (j := 4) (Nat.le_of_ble_eq_true rfl) (Or.inr (Or.inr fun _ _ => ⟨rfl, rfl, rfl⟩)))
theorem sg_5 {Ω : Om} {K : Ka} {M : Mem} {op : List (Nat × Nat)} (hm : ∀ k, 67 ≤ k → k < 141 → mC M k = 0) (hN : ∀ M', MA op false 6 M M' → GoS Ω false m_MD_init K 58 [some (vR (some (12, 0))), none] [] M' 6 6012) : ∀ M', MA op false 5 M M' → GoS Ω false m_MD_init K 49 [some (vR (some (12, 0))), none] [] M' 5 5509 := by
  intro M' hA
  have hc : mC M' 72 = 0 := hA.c0 (j := 5) hm (Nat.le_of_ble_eq_true rfl)
  refine go_wp ok_MD_init [58] 10 _ _ _ _ _ _ ?_
  conv => whnf
  refine And.intro rfl (And.intro ⟨Nat.le_of_ble_eq_true rfl, Nat.le_of_ble_eq_true rfl⟩ ?_)
  rw [hc]
  exact hN _ (hA.step hm (j := 5) (Nat.le_of_ble_eq_true rfl) (Or.inr (Or.inr fun _ _ => ⟨rfl, rfl, rfl⟩)))
theorem sg_6 {Ω : Om} {K : Ka} {M : Mem} {op : List (Nat × Nat)} (hm : ∀ k, 67 ≤ k → k < 141 → mC M k = 0) (hN : ∀ M', MA op false 7 M M' → GoS Ω false m_MD_init K 66 [some (vR (some (12, 0))), none] [] M' 7 6034) : ∀ M', MA op false 6 M M' → GoS Ω false m_MD_init K 58 [some (vR (some (12, 0))), none] [] M' 6 6012 := by
  intro M' hA
  have hc : mC M' 73 = 0 := hA.c0 (j := 6) hm (Nat.le_of_ble_eq_true rfl)
  refine go_wp ok_MD_init [66] 10 _ _ _ _ _ _ ?_
  conv => whnf
  refine And.intro rfl (And.intro ⟨Nat.le_of_ble_eq_true rfl, Nat.le_of_ble_eq_true rfl⟩ ?_)
  rw [hc]
  exact hN _ (hA.step hm (j := 6) (Nat.le_of_ble_eq_true rfl) (Or.inl rfl))
theorem sg_7 {Ω : Om} {K : Ka} {M : Mem} {op : List (Nat × Nat)} (hm : ∀ k, 67 ≤ k → k < 141 → mC M k = 0) (hN : ∀ M', MA op true 8 M M' → GoS Ω false m_MD_init K 83 [some (vR (some (12, 0))), none] [] M' 8 6039) : ∀ M', MA op true 7 M M' → GoS Ω false m_MD_init K 76 [some (vR (some (12, 0))), none] [] M' 7 6034 := by
  intro M' hA
  have hc : mC M' 74 = 0 := hA.c0 (j := 7) hm (Nat.le_of_ble_eq_true rfl)
  refine go_wp ok_MD_init [83] 10 _ _ _ _ _ _ ?_
  conv => whnf
  refine And.intro rfl (And.intro ⟨Nat.le_of_ble_eq_true rfl, Nat.le_of_ble_eq_true rfl⟩ ?_)
  rw [hc]
  exact hN _ (hA.step hm (j := 7) (Nat.le_of_ble_eq_true rfl) (Or.inr (Or.inr fun _ _ => ⟨rfl, rfl, rfl⟩)))
theorem sg_8 {Ω : Om} {K : Ka} {M : Mem} {op : List (Nat × Nat)} (hm : ∀ k, 67 ≤ k → k < 141 → mC M k = 0) (hN : ∀ M', MA op true 9 M M' → GoS Ω false m_MD_init K 91 [some (vR (some (12, 0))), none] [] M' 9 6079) : ∀ M', MA op true 8 M M' → GoS Ω false m_MD_init K 83 [some (vR (some (12, 0))), none] [] M' 8 6039 := by
  intro M' hA
  have hc : mC M' 75 = 0 := hA.c0 (j := 8) hm (Nat.le_of_ble_eq_true rfl)
  refine go_wp ok_MD_init [91] 10 _ _ _ _ _ _ ?_
  conv => whnf
  refine And.intro rfl (And.intro ⟨Nat.le_of_ble_eq_true rfl, Nat.le_of_ble_eq_true rfl⟩ ?_)
  rw [hc]
  exact hN _ (hA.step hm (j := 8) (Nat.le_of_ble_eq_true rfl) (Or.inr (Or.inr fun _ _ => ⟨rfl, rfl, rfl⟩)))
theorem sg_9 {Ω : Om} {K : Ka} {M : Mem} {op : List (Nat × Nat)} (hm : ∀ k, 67 ≤ k → k < 141 → mC M k = 0) (hN : ∀ M', MA op true 10 M M' → GoS Ω false m_MD_init K 99 [some (vR (some (12, 0))), none] [] M' 10 6119) : ∀ M', MA op true 9 M M' → GoS Ω false m_MD_init K 91 [some (vR (some (12, 0))), none] [] M' 9 6079 := by
  intro M' hA
  have hc : mC M' 76 = 0 := hA.c0 (j := 9) hm (Nat.le_of_ble_eq_true rfl)
  refine go_wp ok_MD_init [99] 10 _ _ _ _ _ _ ?_
  conv => whnf
  refine And.intro rfl (And.intro ⟨Nat.le_of_ble_eq_true rfl, Nat.le_of_ble_eq_true rfl⟩ ?_)
  rw [hc]
  exact hN _ (hA.step hm (j := 9) (Nat.le_of_ble_eq_true rfl) (Or.inr (Or.inr fun _ _ => ⟨rfl, rfl, rfl⟩)))
theorem sg_10 {Ω : Om} {K : Ka} {M : Mem} {op : List (Nat × Nat)} (hm : ∀ k, 67 ≤ k → k < 141 → mC M k = 0) (hN : ∀ M', MA op true 11 M M' → GoS Ω false m_MD_init K 107 [some (vR (some (12, 0))), none] [] M' 11 6159) : ∀ M', MA op true 10 M M' → GoS Ω false m_MD_init K 99 [some (vR (some (12, 0))), none] [] M' 10 6119 := by
  intro M' hA
  have hc : mC M' 77 = 0 := hA.c0 (j := 10) hm (Nat.le_of_ble_eq_true rfl)
  refine go_wp ok_MD_init [107] 10 _ _ _ _ _ _ ?_
  conv => whnf
  refine And.intro rfl (And.intro ⟨Nat.le_of_ble_eq_true rfl, Nat.le_of_ble_eq_true rfl⟩ ?_)
  rw [hc]
  exact hN _ (hA.step hm (j := 10) (Nat.le_of_ble_eq_true rfl) (Or.inr (Or.inr fun _ _ => ⟨rfl, rfl, rfl⟩)))
theorem sg_11 {Ω : Om} {K : Ka} {M : Mem} {op : List (Nat × Nat)} (hm : ∀ k, 67 ≤ k → k < 141 → mC M k = 0) (hN : ∀ M', MA op true 12 M M' → GoS Ω false m_MD_init K 116 [some (vR (some (12, 0))), none] [] M' 12 6479) : ∀ M', MA op true 11 M M' → GoS Ω false m_MD_init K 107 [some (vR (some (12, 0))), none] [] M' 11 6159 := by
  intro M' hA
  have hc : mC M' 78 = 0 := hA.c0 (j := 11) hm (Nat.le_of_ble_eq_true rfl)
  refine go_wp ok_MD_init [116] 10 _ _ _ _ _ _ ?_
  conv => whnf
  refine And.intro rfl (And.intro ⟨Nat.le_of_ble_eq_true rfl, Nat.le_of_ble_eq_true rfl⟩ ?_)
  rw [hc]
  exact hN _ (hA.step hm (j := 11) (Nat.le_of_ble_eq_true rfl) (Or.inr (Or.inr fun _ _ => ⟨rfl, rfl, rfl⟩)))
theorem sg_12 {Ω : Om} {K : Ka} {M : Mem} {op : List (Nat × Nat)} (hm : ∀ k, 67 ≤ k → k < 141 → mC M k = 0) (hN : ∀ M', MA op true 13 M M' → GoS Ω false m_MD_init K 125 [some (vR (some (12, 0))), none] [] M' 13 6799) : ∀ M', MA op true 12 M M' → GoS Ω false m_MD_init K 116 [some (vR (some (12, 0))), none] [] M' 12 6479 := by
  intro M' hA
  have hc : mC M' 79 = 0 := hA.c0 (j := 12) hm (Nat.le_of_ble_eq_true rfl)
  refine go_wp ok_MD_init [125] 10 _ _ _ _ _ _ ?_
  conv => whnf
  refine And.intro rfl (And.intro ⟨Nat.le_of_ble_eq_true rfl, Nat.le_of_ble_eq_true rfl⟩ ?_)
  rw [hc]
  exact hN _ (hA.step hm (j := 12) (Nat.le_of_ble_eq_true rfl) (Or.inr (Or.inr fun _ _ => ⟨rfl, rfl, rfl⟩)))
theorem sg_13 {Ω : Om} {K : Ka} {M : Mem} {op : List (Nat × Nat)} (hm : ∀ k, 67 ≤ k → k < 141 → mC M k = 0) (hN : ∀ M', MA op true 14 M M' → GoS Ω false m_MD_init K 132 [some (vR (some (12, 0))), none] [] M' 14 6804) : ∀ M', MA op true 13 M M' → GoS Ω false m_MD_init K 125 [some (vR (some (12, 0))), none] [] M' 13 6799 := by
  intro M' hA
  have hc : mC M' 80 = 0 := hA.c0 (j := 13) hm (Nat.le_of_ble_eq_true rfl)
  refine go_wp ok_MD_init [132] 10 _ _ _ _ _ _ ?_
  conv => whnf
  refine And.intro rfl (And.intro ⟨Nat.le_of_ble_eq_true rfl, Nat.le_of_ble_eq_true rfl⟩ ?_)
  rw [hc]
  exact hN _ (hA.step hm (j := 13) (Nat.le_of_ble_eq_true rfl) (Or.inr (Or.inr fun _ _ => ⟨rfl, rfl, rfl⟩)))
theorem sg_14 {Ω : Om} {K : Ka} {M : Mem} {op : List (Nat × Nat)} (hm : ∀ k, 67 ≤ k → k < 141 → mC M k = 0) (hN : ∀ M', MA op true 15 M M' → GoS Ω false m_MD_init K 140 [some (vR (some (12, 0))), none] [] M' 15 6824) : ∀ M', MA op true 14 M M' → GoS Ω false m_MD_init K 132 [some (vR (some (12, 0))), none] [] M' 14 6804 := by
  intro M' hA
  have hc : mC M' 81 = 0 := hA.c0 (j := 14) hm (Nat.le_of_ble_eq_true rfl)
  refine go_wp ok_MD_init [140] 10 _ _ _ _ _ _ ?_
  conv => whnf
  refine And.intro rfl (And.intro ⟨Nat.le_of_ble_eq_true rfl, Nat.le_of_ble_eq_true rfl⟩ ?_)
  rw [hc]
  exact hN _ (hA.step hm (j := 14) (Nat.le_of_ble_eq_true rfl) (Or.inr (Or.inr fun _ _ => ⟨rfl, rfl, rfl⟩)))
theorem sg_15 {Ω : Om} {K : Ka} {M : Mem} {op : List (Nat × Nat)} (hm : ∀ k, 67 ≤ k → k < 141 → mC M k = 0) (hN : ∀ M', MA op true 16 M M' → GoS Ω false m_MD_init K 148 [some (vR (some (12, 0))), none] [] M' 16 6844) : ∀ M', MA op true 15 M M' → GoS Ω false m_MD_init K 140 [some (vR (some (12, 0))), none] [] M' 15 6824 := by
  intro M' hA
  have hc : mC M' 82 = 0 := hA.c0 (j := 15) hm (Nat.le_of_ble_eq_true rfl)
  refine go_wp ok_MD_init [148] 10 _ _ _ _ _ _ ?_
  conv => whnf
  refine And.intro rfl (And.intro ⟨Nat.le_of_ble_eq_true rfl, Nat.le_of_ble_eq_true rfl⟩ ?_)
  rw [hc]
  exact hN _ (hA.step hm (j := 15) (Nat.le_of_ble_eq_true rfl) (Or.inr (Or.inr fun _ _ => ⟨rfl, rfl, rfl⟩)))
theorem sg_16 {Ω : Om} {K : Ka} {M : Mem} {op : List (Nat × Nat)} (hm : ∀ k, 67 ≤ k → k < 141 → mC M k = 0) (hN : ∀ M', MA op true 17 M M' → GoS Ω false m_MD_init K 156 [some (vR (some (12, 0))), none] [] M' 17 6864) : ∀ M', MA op true 16 M M' → GoS Ω false m_MD_init K 148 [some (vR (some (12, 0))), none] [] M' 16 6844 := by
  intro M' hA
  have hc : mC M' 83 = 0 := hA.c0 (j := 16) hm (Nat.le_of_ble_eq_true rfl)
  refine go_wp ok_MD_init [156] 10 _ _ _ _ _ _ ?_
  conv => whnf
  refine And.intro rfl (And.intro ⟨Nat.le_of_ble_eq_true rfl, Nat.le_of_ble_eq_true rfl⟩ ?_)
  rw [hc]
  exact hN _ (hA.step hm (j := 16) (Nat.le_of_ble_eq_true rfl) (Or.inr (Or.inr fun _ _ => ⟨rfl, rfl, rfl⟩)))
theorem sg_17 {Ω : Om} {K : Ka} {M : Mem} {op : List (Nat × Nat)} (hm : ∀ k, 67 ≤ k → k < 141 → mC M k = 0) (hN : ∀ M', MA op true 18 M M' → GoS Ω false m_MD_init K 163 [some (vR (some (12, 0))), none] [] M' 18 6869) : ∀ M', MA op true 17 M M' → GoS Ω false m_MD_init K 156 [some (vR (some (12, 0))), none] [] M' 17 6864 := by
  intro M' hA
  have hc : mC M' 84 = 0 := hA.c0 (j := 17) hm (Nat.le_of_ble_eq_true rfl)
  refine go_wp ok_MD_init [163] 10 _ _ _ _ _ _ ?_
  conv => whnf
  refine And.intro rfl (And.intro ⟨Nat.le_of_ble_eq_true rfl, Nat.le_of_ble_eq_true rfl⟩ ?_)
  rw [hc]
  exact hN _ (hA.step hm (j := 17) (Nat.le_of_ble_eq_true rfl) (Or.inr (Or.inr fun _ _ => ⟨rfl, rfl, rfl⟩)))
theorem sg_18 {Ω : Om} {K : Ka} {M : Mem} {op : List (Nat × Nat)} (hm : ∀ k, 67 ≤ k → k < 141 → mC M k = 0) (hN : ∀ M', MA op true 19 M M' → GoS Ω false m_MD_init K 171 [some (vR (some (12, 0))), none] [] M' 19 6889) : ∀ M', MA op true 18 M M' → GoS Ω false m_MD_init K 163 [some (vR (some (12, 0))), none] [] M' 18 6869 := by
  intro M' hA
  have hc : mC M' 85 = 0 := hA.c0 (j := 18) hm (Nat.le_of_ble_eq_true rfl)
  refine go_wp ok_MD_init [171] 10 _ _ _ _ _ _ ?_
  conv => whnf
  refine And.intro rfl (And.intro ⟨Nat.le_of_ble_eq_true rfl, Nat.le_of_ble_eq_true rfl⟩ ?_)
  rw [hc]
  exact hN _ (hA.step hm (j := 18) (Nat.le_of_ble_eq_true rfl) (Or.inr (Or.inr fun _ _ => ⟨rfl, rfl, rfl⟩)))
theorem sg_19 {Ω : Om} {K : Ka} {M : Mem} {op : List (Nat × Nat)} (hm : ∀ k, 67 ≤ k → k < 141 → mC M k = 0) (hN : ∀ M', MA op true 20 M M' → GoS Ω false m_MD_init K 179 [some (vR (some (12, 0))), none] [] M' 20 6909) : ∀ M', MA op true 19 M M' → GoS Ω false m_MD_init K 171 [some (vR (some (12, 0))), none] [] M' 19 6889 := by
  intro M' hA
  have hc : mC M' 86 = 0 := hA.c0 (j := 19) hm (Nat.le_of_ble_eq_true rfl)
  refine go_wp ok_MD_init [179] 10 _ _ _ _ _ _ ?_
  conv => whnf
  refine And.intro rfl (And.intro ⟨Nat.le_of_ble_eq_true rfl, Nat.le_of_ble_eq_true rfl⟩ ?_)
  rw [hc]
  exact hN _ (hA.step hm (j := 19) (Nat.le_of_ble_eq_true rfl) (Or.inr (Or.inr fun _ _ => ⟨rfl, rfl, rfl⟩)))
theorem sg_20 {Ω : Om} {K : Ka} {M : Mem} {op : List (Nat × Nat)} (hm : ∀ k, 67 ≤ k → k < 141 → mC M k = 0) (hN : ∀ M', MA op true 21 M M' → GoS Ω false m_MD_init K 187 [some (vR (some (12, 0))), none] [] M' 21 6929) : ∀ M', MA op true 20 M M' → GoS Ω false m_MD_init K 179 [some (vR (some (12, 0))), none] [] M' 20 6909 := by
  intro M' hA
  have hc : mC M' 87 = 0 := hA.c0 (j := 20) hm (Nat.le_of_ble_eq_true rfl)
  refine go_wp ok_MD_init [187] 10 _ _ _ _ _ _ ?_
  conv => whnf
  refine And.intro rfl (And.intro ⟨Nat.le_of_ble_eq_true rfl, Nat.le_of_ble_eq_true rfl⟩ ?_)
  rw [hc]
  exact hN _ (hA.step hm (j := 20) (Nat.le_of_ble_eq_true rfl) (Or.inr (Or.inr fun _ _ => ⟨rfl, rfl, rfl⟩)))
theorem sg_21 {Ω : Om} {K : Ka} {M : Mem} {op : List (Nat × Nat)} (hm : ∀ k, 67 ≤ k → k < 141 → mC M k = 0) (hN : ∀ M', MA op true 22 M M' → GoS Ω false m_MD_init K 195 [some (vR (some (12, 0))), none] [] M' 22 6949) : ∀ M', MA op true 21 M M' → GoS Ω false m_MD_init K 187 [some (vR (some (12, 0))), none] [] M' 21 6929 := by
  intro M' hA
  have hc : mC M' 88 = 0 := hA.c0 (j := 21) hm (Nat.le_of_ble_eq_true rfl)
  refine go_wp ok_MD_init [195] 10 _ _ _ _ _ _ ?_
  conv => whnf
  refine And.intro rfl (And.intro ⟨Nat.le_of_ble_eq_true rfl, Nat.le_of_ble_eq_true rfl⟩ ?_)
  rw [hc]
  exact hN _ (hA.step hm (j := 21) (Nat.le_of_ble_eq_true rfl) (Or.inr (Or.inr fun _ _ => ⟨rfl, rfl, rfl⟩)))
theorem sg_22 {Ω : Om} {K : Ka} {M : Mem} {op : List (Nat × Nat)} (hm : ∀ k, 67 ≤ k → k < 141 → mC M k = 0) (hN : ∀ M', MA op true 23 M M' → GoS Ω false m_MD_init K 203 [some (vR (some (12, 0))), none] [] M' 23 6969) : ∀ M', MA op true 22 M M' → GoS Ω false m_MD_init K 195 [some (vR (some (12, 0))), none] [] M' 22 6949 := by
  intro M' hA
  have hc : mC M' 89 = 0 := hA.c0 (j := 22) hm (Nat.le_of_ble_eq_true rfl)
  refine go_wp ok_MD_init [203] 10 _ _ _ _ _ _ ?_
  conv => whnf
  refine And.intro rfl (And.intro ⟨Nat.le_of_ble_eq_true rfl, Nat.le_of_ble_eq_true rfl⟩ ?_)
  rw [hc]
  exact hN _ (hA.step hm (j := 22) (Nat.le_of_ble_eq_true rfl) (Or.inr (Or.inr fun _ _ => ⟨rfl, rfl, rfl⟩)))
theorem sg_23 {Ω : Om} {K : Ka} {M : Mem} {op : List (Nat × Nat)} (hm : ∀ k, 67 ≤ k → k < 141 → mC M k = 0) (hN : ∀ M', MA op true 24 M M' → GoS Ω false m_MD_init K 211 [some (vR (some (12, 0))), none] [] M' 24 6989) : ∀ M', MA op true 23 M M' → GoS Ω false m_MD_init K 203 [some (vR (some (12, 0))), none] [] M' 23 6969 := by
  intro M' hA
  have hc : mC M' 90 = 0 := hA.c0 (j := 23) hm (Nat.le_of_ble_eq_true rfl)
  refine go_wp ok_MD_init [211] 10 _ _ _ _ _ _ ?_
  conv => whnf
  refine And.intro rfl (And.intro ⟨Nat.le_of_ble_eq_true rfl, Nat.le_of_ble_eq_true rfl⟩ ?_)
  rw [hc]
  exact hN _ (hA.step hm (j := 23) (Nat.le_of_ble_eq_true rfl) (Or.inr (Or.inr fun _ _ => ⟨rfl, rfl, rfl⟩)))
theorem sg_24 {Ω : Om} {K : Ka} {M : Mem} {op : List (Nat × Nat)} (hm : ∀ k, 67 ≤ k → k < 141 → mC M k = 0) (hN : ∀ M', MA op true 25 M M' → GoS Ω false m_MD_init K 219 [some (vR (some (12, 0))), none] [] M' 25 7069) : ∀ M', MA op true 24 M M' → GoS Ω false m_MD_init K 211 [some (vR (some (12, 0))), none] [] M' 24 6989 := by
  intro M' hA
  have hc : mC M' 91 = 0 := hA.c0 (j := 24) hm (Nat.le_of_ble_eq_true rfl)
  refine go_wp ok_MD_init [219] 10 _ _ _ _ _ _ ?_
  conv => whnf
  refine And.intro rfl (And.intro ⟨Nat.le_of_ble_eq_true rfl, Nat.le_of_ble_eq_true rfl⟩ ?_)
  rw [hc]
  exact hN _ (hA.step hm (j := 24) (Nat.le_of_ble_eq_true rfl) (Or.inr (Or.inr fun _ _ => ⟨rfl, rfl, rfl⟩)))
theorem sg_25 {Ω : Om} {K : Ka} {M : Mem} {op : List (Nat × Nat)} (hm : ∀ k, 67 ≤ k → k < 141 → mC M k = 0) (hN : ∀ M', MA op true 26 M M' → GoS Ω false m_MD_init K 228 [some (vR (some (12, 0))), none] [] M' 26 7269) : ∀ M', MA op true 25 M M' → GoS Ω false m_MD_init K 219 [some (vR (some (12, 0))), none] [] M' 25 7069 := by
  intro M' hA
  have hc : mC M' 92 = 0 := hA.c0 (j := 25) hm (Nat.le_of_ble_eq_true rfl)
  refine go_wp ok_MD_init [228] 10 _ _ _ _ _ _ ?_
  conv => whnf
  refine And.intro rfl (And.intro ⟨Nat.le_of_ble_eq_true rfl, Nat.le_of_ble_eq_true rfl⟩ ?_)
  rw [hc]
  exact hN _ (hA.step hm (j := 25) (Nat.le_of_ble_eq_true rfl) (Or.inr (Or.inr fun _ _ => ⟨rfl, rfl, rfl⟩)))
theorem sg_26 {Ω : Om} {K : Ka} {M : Mem} {op : List (Nat × Nat)} (hm : ∀ k, 67 ≤ k → k < 141 → mC M k = 0) (hN : ∀ M', MA op true 27 M M' → GoS Ω false m_MD_init K 237 [some (vR (some (12, 0))), none] [] M' 27 7469) : ∀ M', MA op true 26 M M' → GoS Ω false m_MD_init K 228 [some (vR (some (12, 0))), none] [] M' 26 7269 := by
  intro M' hA
  have hc : mC M' 93 = 0 := hA.c0 (j := 26) hm (Nat.le_of_ble_eq_true rfl)
  refine go_wp ok_MD_init [237] 10 _ _ _ _ _ _ ?_
  conv => whnf
  refine And.intro rfl (And.intro ⟨Nat.le_of_ble_eq_true rfl, Nat.le_of_ble_eq_true rfl⟩ ?_)
  rw [hc]
  exact hN _ (hA.step hm (j := 26) (Nat.le_of_ble_eq_true rfl) (Or.inr (Or.inr fun _ _ => ⟨rfl, rfl, rfl⟩)))
theorem sg_27 {Ω : Om} {K : Ka} {M : Mem} {op : List (Nat × Nat)} (hm : ∀ k, 67 ≤ k → k < 141 → mC M k = 0) (hN : ∀ M', MA op true 28 M M' → GoS Ω false m_MD_init K 246 [some (vR (some (12, 0))), none] [] M' 28 7669) : ∀ M', MA op true 27 M M' → GoS Ω false m_MD_init K 237 [some (vR (some (12, 0))), none] [] M' 27 7469 := by
  intro M' hA
  have hc : mC M' 94 = 0 := hA.c0 (j := 27) hm (Nat.le_of_ble_eq_true rfl)
  refine go_wp ok_MD_init [246] 10 _ _ _ _ _ _ ?_
  conv => whnf
  refine And.intro rfl (And.intro ⟨Nat.le_of_ble_eq_true rfl, Nat.le_of_ble_eq_true rfl⟩ ?_)
  rw [hc]
  exact hN _ (hA.step hm (j := 27) (Nat.le_of_ble_eq_true rfl) (Or.inr (Or.inr fun _ _ => ⟨rfl, rfl, rfl⟩)))
theorem sg_28 {Ω : Om} {K : Ka} {M : Mem} {op : List (Nat × Nat)} (hm : ∀ k, 67 ≤ k → k < 141 → mC M k = 0) (hN : ∀ M', MA op true 29 M M' → GoS Ω false m_MD_init K 255 [some (vR (some (12, 0))), none] [] M' 29 7869) : ∀ M', MA op true 28 M M' → GoS Ω false m_MD_init K 246 [some (vR (some (12, 0))), none] [] M' 28 7669 := by
  intro M' hA
  have hc : mC M' 95 = 0 := hA.c0 (j := 28) hm (Nat.le_of_ble_eq_true rfl)
  refine go_wp ok_MD_init [255] 10 _ _ _ _ _ _ ?_
  conv => whnf
  refine And.intro rfl (And.intro ⟨Nat.le_of_ble_eq_true rfl, Nat.le_of_ble_eq_true rfl⟩ ?_)
  rw [hc]
  exact hN _ (hA.step hm (j := 28) (Nat.le_of_ble_eq_true rfl) (Or.inr (Or.inr fun _ _ => ⟨rfl, rfl, rfl⟩)))
theorem sg_29 {Ω : Om} {K : Ka} {M : Mem} {op : List (Nat × Nat)} (hm : ∀ k, 67 ≤ k → k < 141 → mC M k = 0) (hN : ∀ M', MA op true 30 M M' → GoS Ω false m_MD_init K 264 [some (vR (some (12, 0))), none] [] M' 30 8069) : ∀ M', MA op true 29 M M' → GoS Ω false m_MD_init K 255 [some (vR (some (12, 0))), none] [] M' 29 7869 := by
  intro M' hA
  have hc : mC M' 96 = 0 := hA.c0 (j := 29) hm (Nat.le_of_ble_eq_true rfl)
  refine go_wp ok_MD_init [264] 10 _ _ _ _ _ _ ?_
  conv => whnf
  refine And.intro rfl (And.intro ⟨Nat.le_of_ble_eq_true rfl, Nat.le_of_ble_eq_true rfl⟩ ?_)
  rw [hc]
  exact hN _ (hA.step hm (j := 29) (Nat.le_of_ble_eq_true rfl) (Or.inr (Or.inr fun _ _ => ⟨rfl, rfl, rfl⟩)))
theorem sg_30 {Ω : Om} {K : Ka} {M : Mem} {op : List (Nat × Nat)} (hm : ∀ k, 67 ≤ k → k < 141 → mC M k = 0) (hN : ∀ M', MA op true 31 M M' → GoS Ω false m_MD_init K 271 [some (vR (some (12, 0))), none] [] M' 31 8074) : ∀ M', MA op true 30 M M' → GoS Ω false m_MD_init K 264 [some (vR (some (12, 0))), none] [] M' 30 8069 := by
  intro M' hA
  have hc : mC M' 97 = 0 := hA.c0 (j := 30) hm (Nat.le_of_ble_eq_true rfl)
  refine go_wp ok_MD_init [271] 10 _ _ _ _ _ _ ?_
  conv => whnf
  refine And.intro rfl (And.intro ⟨Nat.le_of_ble_eq_true rfl, Nat.le_of_ble_eq_true rfl⟩ ?_)
  rw [hc]
  exact hN _ (hA.step hm (j := 30) (Nat.le_of_ble_eq_true rfl) (Or.inr (Or.inr fun _ _ => ⟨rfl, rfl, rfl⟩)))
theorem sg_31 {Ω : Om} {K : Ka} {M : Mem} {op : List (Nat × Nat)} (hm : ∀ k, 67 ≤ k → k < 141 → mC M k = 0) (hN : ∀ M', MA op true 32 M M' → GoS Ω false m_MD_init K 279 [some (vR (some (12, 0))), none] [] M' 32 8114) : ∀ M', MA op true 31 M M' → GoS Ω false m_MD_init K 271 [some (vR (some (12, 0))), none] [] M' 31 8074 := by
  intro M' hA
  have hc : mC M' 98 = 0 := hA.c0 (j := 31) hm (Nat.le_of_ble_eq_true rfl)
  refine go_wp ok_MD_init [279] 10 _ _ _ _ _ _ ?_
  conv => whnf
  refine And.intro rfl (And.intro ⟨Nat.le_of_ble_eq_true rfl, Nat.le_of_ble_eq_true rfl⟩ ?_)
  rw [hc]
  exact hN _ (hA.step hm (j := 31) (Nat.le_of_ble_eq_true rfl) (Or.inr (Or.inr fun _ _ => ⟨rfl, rfl, rfl⟩)))
theorem sg_32 {Ω : Om} {K : Ka} {M : Mem} {op : List (Nat × Nat)} (hm : ∀ k, 67 ≤ k → k < 141 → mC M k = 0) (hN : ∀ M', MA op true 33 M M' → GoS Ω false m_MD_init K 287 [some (vR (some (12, 0))), none] [] M' 33 8154) : ∀ M', MA op true 32 M M' → GoS Ω false m_MD_init K 279 [some (vR (some (12, 0))), none] [] M' 32 8114 := by
  intro M' hA
  have hc : mC M' 99 = 0 := hA.c0 (j := 32) hm (Nat.le_of_ble_eq_true rfl)
  refine go_wp ok_MD_init [287] 10 _ _ _ _ _ _ ?_
  conv => whnf
  refine And.intro rfl (And.intro ⟨Nat.le_of_ble_eq_true rfl, Nat.le_of_ble_eq_true rfl⟩ ?_)
  rw [hc]
  exact hN _ (hA.step hm (j := 32) (Nat.le_of_ble_eq_true rfl) (Or.inr (Or.inr fun _ _ => ⟨rfl, rfl, rfl⟩)))
theorem sg_33 {Ω : Om} {K : Ka} {M : Mem} {op : List (Nat × Nat)} (hm : ∀ k, 67 ≤ k → k < 141 → mC M k = 0) (hN : ∀ M', MA op true 34 M M' → GoS Ω false m_MD_init K 295 [some (vR (some (12, 0))), none] [] M' 34 8194) : ∀ M', MA op true 33 M M' → GoS Ω false m_MD_init K 287 [some (vR (some (12, 0))), none] [] M' 33 8154 := by
  intro M' hA
  have hc : mC M' 100 = 0 := hA.c0 (j := 33) hm (Nat.le_of_ble_eq_true rfl)
  refine go_wp ok_MD_init [295] 10 _ _ _ _ _ _ ?_
  conv => whnf
  refine And.intro rfl (And.intro ⟨Nat.le_of_ble_eq_true rfl, Nat.le_of_ble_eq_true rfl⟩ ?_)
  rw [hc]
  exact hN _ (hA.step hm (j := 33) (Nat.le_of_ble_eq_true rfl) (Or.inr (Or.inr fun _ _ => ⟨rfl, rfl, rfl⟩)))
theorem sg_34 {Ω : Om} {K : Ka} {M : Mem} {op : List (Nat × Nat)} (hm : ∀ k, 67 ≤ k → k < 141 → mC M k = 0) (hN : ∀ M', MA op true 35 M M' → GoS Ω false m_MD_init K 304 [some (vR (some (12, 0))), none] [] M' 35 9194) : ∀ M', MA op true 34 M M' → GoS Ω false m_MD_init K 295 [some (vR (some (12, 0))), none] [] M' 34 8194 := by
  intro M' hA
  have hc : mC M' 101 = 0 := hA.c0 (j := 34) hm (Nat.le_of_ble_eq_true rfl)
  refine go_wp ok_MD_init [304] 10 _ _ _ _ _ _ ?_
  conv => whnf
  refine And.intro rfl (And.intro ⟨Nat.le_of_ble_eq_true rfl, Nat.le_of_ble_eq_true rfl⟩ ?_)
  rw [hc]
  exact hN _ (hA.step hm (j := 34) (Nat.le_of_ble_eq_true rfl) (Or.inr (Or.inr fun _ _ => ⟨rfl, rfl, rfl⟩)))
theorem sg_35 {Ω : Om} {K : Ka} {M : Mem} {op : List (Nat × Nat)} (hm : ∀ k, 67 ≤ k → k < 141 → mC M k = 0) (hN : ∀ M', MA op true 36 M M' → GoS Ω false m_MD_init K 313 [some (vR (some (12, 0))), none] [] M' 36 10194) : ∀ M', MA op true 35 M M' → GoS Ω false m_MD_init K 304 [some (vR (some (12, 0))), none] [] M' 35 9194 := by
  intro M' hA
  have hc : mC M' 102 = 0 := hA.c0 (j := 35) hm (Nat.le_of_ble_eq_true rfl)
  refine go_wp ok_MD_init [313] 10 _ _ _ _ _ _ ?_
  conv => whnf
  refine And.intro rfl (And.intro ⟨Nat.le_of_ble_eq_true rfl, Nat.le_of_ble_eq_true rfl⟩ ?_)
  rw [hc]
  exact hN _ (hA.step hm (j := 35) (Nat.le_of_ble_eq_true rfl) (Or.inr (Or.inr fun _ _ => ⟨rfl, rfl, rfl⟩)))
theorem sg_36 {Ω : Om} {K : Ka} {M : Mem} {op : List (Nat × Nat)} (hm : ∀ k, 67 ≤ k → k < 141 → mC M k = 0) (hN : ∀ M', MA op true 37 M M' → GoS Ω false m_MD_init K 322 [some (vR (some (12, 0))), none] [] M' 37 11194) : ∀ M', MA op true 36 M M' → GoS Ω false m_MD_init K 313 [some (vR (some (12, 0))), none] [] M' 36 10194 := by
  intro M' hA
  have hc : mC M' 103 = 0 := hA.c0 (j := 36) hm (Nat.le_of_ble_eq_true rfl)
  refine go_wp ok_MD_init [322] 10 _ _ _ _ _ _ ?_
  conv => whnf
  refine And.intro rfl (And.intro ⟨Nat.le_of_ble_eq_true rfl, Nat.le_of_ble_eq_true rfl⟩ ?_)
  rw [hc]
  exact hN _ (hA.step hm (j := 36) (Nat.le_of_ble_eq_true rfl) (Or.inr (Or.inr fun _ _ => ⟨rfl, rfl, rfl⟩)))
theorem sg_37 {Ω : Om} {K : Ka} {M : Mem} {op : List (Nat × Nat)} (hm : ∀ k, 67 ≤ k → k < 141 → mC M k = 0) (hN : ∀ M', MA op true 38 M M' → GoS Ω false m_MD_init K 331 [some (vR (some (12, 0))), none] [] M' 38 12194) : ∀ M', MA op true 37 M M' → GoS Ω false m_MD_init K 322 [some (vR (some (12, 0))), none] [] M' 37 11194 := by
  intro M' hA
  have hc : mC M' 104 = 0 := hA.c0 (j := 37) hm (Nat.le_of_ble_eq_true rfl)
  refine go_wp ok_MD_init [331] 10 _ _ _ _ _ _ ?_
  conv => whnf
  refine And.intro rfl (And.intro ⟨Nat.le_of_ble_eq_true rfl, Nat.le_of_ble_eq_true rfl⟩ ?_)
  rw [hc]
  exact hN _ (hA.step hm (j := 37) (Nat.le_of_ble_eq_true rfl) (Or.inr (Or.inr fun _ _ => ⟨rfl, rfl, rfl⟩)))
theorem sg_38 {Ω : Om} {K : Ka} {M : Mem} {op : List (Nat × Nat)} (hm : ∀ k, 67 ≤ k → k < 141 → mC M k = 0) (hN : ∀ M', MA op true 39 M M' → GoS Ω false m_MD_init K 340 [some (vR (some (12, 0))), none] [] M' 39 13194) : ∀ M', MA op true 38 M M' → GoS Ω false m_MD_init K 331 [some (vR (some (12, 0))), none] [] M' 38 12194 := by
  intro M' hA
  have hc : mC M' 105 = 0 := hA.c0 (j := 38) hm (Nat.le_of_ble_eq_true rfl)
  refine go_wp ok_MD_init [340] 10 _ _ _ _ _ _ ?_
  conv => whnf
  refine And.intro rfl (And.intro ⟨Nat.le_of_ble_eq_true rfl, Nat.le_of_ble_eq_true rfl⟩ ?_)
  rw [hc]
  exact hN _ (hA.step hm (j := 38) (Nat.le_of_ble_eq_true rfl) (Or.inr (Or.inr fun _ _ => ⟨rfl, rfl, rfl⟩)))
theorem sg_39 {Ω : Om} {K : Ka} {M : Mem} {op : List (Nat × Nat)} (hm : ∀ k, 67 ≤ k → k < 141 → mC M k = 0) (hN : ∀ M', MA op true 40 M M' → GoS Ω false m_MD_init K 349 [some (vR (some (12, 0))), none] [] M' 40 14194) : ∀ M', MA op true 39 M M' → GoS Ω false m_MD_init K 340 [some (vR (some (12, 0))), none] [] M' 39 13194 := by
  intro M' hA
  have hc : mC M' 106 = 0 := hA.c0 (j := 39) hm (Nat.le_of_ble_eq_true rfl)
  refine go_wp ok_MD_init [349] 10 _ _ _ _ _ _ ?_
  conv => whnf
  refine And.intro rfl (And.intro ⟨Nat.le_of_ble_eq_true rfl, Nat.le_of_ble_eq_true rfl⟩ ?_)
  rw [hc]
  exact hN _ (hA.step hm (j := 39) (Nat.le_of_ble_eq_true rfl) (Or.inr (Or.inr fun _ _ => ⟨rfl, rfl, rfl⟩)))
theorem sg_40 {Ω : Om} {K : Ka} {M : Mem} {op : List (Nat × Nat)} (hm : ∀ k, 67 ≤ k → k < 141 → mC M k = 0) (hN : ∀ M', MA op true 41 M M' → GoS Ω false m_MD_init K 358 [some (vR (some (12, 0))), none] [] M' 41 16794) : ∀ M', MA op true 40 M M' → GoS Ω false m_MD_init K 349 [some (vR (some (12, 0))), none] [] M' 40 14194 := by
  intro M' hA
  have hc : mC M' 107 = 0 := hA.c0 (j := 40) hm (Nat.le_of_ble_eq_true rfl)
  refine go_wp ok_MD_init [358] 10 _ _ _ _ _ _ ?_
  conv => whnf
  refine And.intro rfl (And.intro ⟨Nat.le_of_ble_eq_true rfl, Nat.le_of_ble_eq_true rfl⟩ ?_)
  rw [hc]
  exact hN _ (hA.step hm (j := 40) (Nat.le_of_ble_eq_true rfl) (Or.inr (Or.inr fun _ _ => ⟨rfl, rfl, rfl⟩)))
theorem sg_41 {Ω : Om} {K : Ka} {M : Mem} {op : List (Nat × Nat)} (hm : ∀ k, 67 ≤ k → k < 141 → mC M k = 0) (hN : ∀ M', MA op true 42 M M' → GoS Ω false m_MD_init K 367 [some (vR (some (12, 0))), none] [] M' 42 19394) : ∀ M', MA op true 41 M M' → GoS Ω false m_MD_init K 358 [some (vR (some (12, 0))), none] [] M' 41 16794 := by
  intro M' hA
  have hc : mC M' 108 = 0 := hA.c0 (j := 41) hm (Nat.le_of_ble_eq_true rfl)
  refine go_wp ok_MD_init [367] 10 _ _ _ _ _ _ ?_
  conv => whnf
  refine And.intro rfl (And.intro ⟨Nat.le_of_ble_eq_true rfl, Nat.le_of_ble_eq_true rfl⟩ ?_)
  rw [hc]
  exact hN _ (hA.step hm (j := 41) (Nat.le_of_ble_eq_true rfl) (Or.inr (Or.inr fun _ _ => ⟨rfl, rfl, rfl⟩)))
theorem sg_42 {Ω : Om} {K : Ka} {M : Mem} {op : List (Nat × Nat)} (hm : ∀ k, 67 ≤ k → k < 141 → mC M k = 0) (hN : ∀ M', MA op true 43 M M' → GoS Ω false m_MD_init K 375 [some (vR (some (12, 0))), none] [] M' 43 19458) : ∀ M', MA op true 42 M M' → GoS Ω false m_MD_init K 367 [some (vR (some (12, 0))), none] [] M' 42 19394 := by
  intro M' hA
  have hc : mC M' 109 = 0 := hA.c0 (j := 42) hm (Nat.le_of_ble_eq_true rfl)
  refine go_wp ok_MD_init [375] 10 _ _ _ _ _ _ ?_
  conv => whnf
  refine And.intro rfl (And.intro ⟨Nat.le_of_ble_eq_true rfl, Nat.le_of_ble_eq_true rfl⟩ ?_)
  rw [hc]
  exact hN _ (hA.step hm (j := 42) (Nat.le_of_ble_eq_true rfl) (Or.inr (Or.inr fun _ _ => ⟨rfl, rfl, rfl⟩)))
theorem sg_43 {Ω : Om} {K : Ka} {M : Mem} {op : List (Nat × Nat)} (hm : ∀ k, 67 ≤ k → k < 141 → mC M k = 0) (hN : ∀ M', MA op true 44 M M' → GoS Ω false m_MD_init K 383 [some (vR (some (12, 0))), none] [] M' 44 19466) : ∀ M', MA op true 43 M M' → GoS Ω false m_MD_init K 375 [some (vR (some (12, 0))), none] [] M' 43 19458 := by
  intro M' hA
  have hc : mC M' 110 = 0 := hA.c0 (j := 43) hm (Nat.le_of_ble_eq_true rfl)
  refine go_wp ok_MD_init [383] 10 _ _ _ _ _ _ ?_
  conv => whnf
  refine And.intro rfl (And.intro ⟨Nat.le_of_ble_eq_true rfl, Nat.le_of_ble_eq_true rfl⟩ ?_)
  rw [hc]
  exact hN _ (hA.step hm (j := 43) (Nat.le_of_ble_eq_true rfl) (Or.inr (Or.inr fun _ _ => ⟨rfl, rfl, rfl⟩)))
theorem sg_44 {Ω : Om} {K : Ka} {M : Mem} {op : List (Nat × Nat)} (hm : ∀ k, 67 ≤ k → k < 141 → mC M k = 0) (hN : ∀ M', MA op true 45 M M' → GoS Ω false m_MD_init K 392 [some (vR (some (12, 0))), none] [] M' 45 19966) : ∀ M', MA op true 44 M M' → GoS Ω false m_MD_init K 383 [some (vR (some (12, 0))), none] [] M' 44 19466 := by
  intro M' hA
  have hc : mC M' 111 = 0 := hA.c0 (j := 44) hm (Nat.le_of_ble_eq_true rfl)
  refine go_wp ok_MD_init [392] 10 _ _ _ _ _ _ ?_
  conv => whnf
  refine And.intro rfl (And.intro ⟨Nat.le_of_ble_eq_true rfl, Nat.le_of_ble_eq_true rfl⟩ ?_)
  rw [hc]
  exact hN _ (hA.step hm (j := 44) (Nat.le_of_ble_eq_true rfl) (Or.inr (Or.inr fun _ _ => ⟨rfl, rfl, rfl⟩)))
theorem sg_45 {Ω : Om} {K : Ka} {M : Mem} {op : List (Nat × Nat)} (hm : ∀ k, 67 ≤ k → k < 141 → mC M k = 0) (hN : ∀ M', MA op true 46 M M' → GoS Ω false m_MD_init K 400 [some (vR (some (12, 0))), none] [] M' 46 19976) : ∀ M', MA op true 45 M M' → GoS Ω false m_MD_init K 392 [some (vR (some (12, 0))), none] [] M' 45 19966 := by
  intro M' hA
  have hc : mC M' 112 = 0 := hA.c0 (j := 45) hm (Nat.le_of_ble_eq_true rfl)
  refine go_wp ok_MD_init [400] 10 _ _ _ _ _ _ ?_
  conv => whnf
  refine And.intro rfl (And.intro ⟨Nat.le_of_ble_eq_true rfl, Nat.le_of_ble_eq_true rfl⟩ ?_)
  rw [hc]
  exact hN _ (hA.step hm (j := 45) (Nat.le_of_ble_eq_true rfl) (Or.inr (Or.inr fun _ _ => ⟨rfl, rfl, rfl⟩)))
theorem sg_46 {Ω : Om} {K : Ka} {M : Mem} {op : List (Nat × Nat)} (hm : ∀ k, 67 ≤ k → k < 141 → mC M k = 0) (hN : ∀ M', MA op true 47 M M' → GoS Ω false m_MD_init K 408 [some (vR (some (12, 0))), none] [] M' 47 19986) : ∀ M', MA op true 46 M M' → GoS Ω false m_MD_init K 400 [some (vR (some (12, 0))), none] [] M' 46 19976 := by
  intro M' hA
  have hc : mC M' 113 = 0 := hA.c0 (j := 46) hm (Nat.le_of_ble_eq_true rfl)
  refine go_wp ok_MD_init [408] 10 _ _ _ _ _ _ ?_
  conv => whnf
  refine And.intro rfl (And.intro ⟨Nat.le_of_ble_eq_true rfl, Nat.le_of_ble_eq_true rfl⟩ ?_)
  rw [hc]
  exact hN _ (hA.step hm (j := 46) (Nat.le_of_ble_eq_true rfl) (Or.inr (Or.inr fun _ _ => ⟨rfl, rfl, rfl⟩)))
theorem sg_47 {Ω : Om} {K : Ka} {M : Mem} {op : List (Nat × Nat)} (hm : ∀ k, 67 ≤ k → k < 141 → mC M k = 0) (hN : ∀ M', MA op true 48 M M' → GoS Ω false m_MD_init K 416 [some (vR (some (12, 0))), none] [] M' 48 19996) : ∀ M', MA op true 47 M M' → GoS Ω false m_MD_init K 408 [some (vR (some (12, 0))), none] [] M' 47 19986 := by
  intro M' hA
  have hc : mC M' 114 = 0 := hA.c0 (j := 47) hm (Nat.le_of_ble_eq_true rfl)
  refine go_wp ok_MD_init [416] 10 _ _ _ _ _ _ ?_
  conv => whnf
  refine And.intro rfl (And.intro ⟨Nat.le_of_ble_eq_true rfl, Nat.le_of_ble_eq_true rfl⟩ ?_)
  rw [hc]
  exact hN _ (hA.step hm (j := 47) (Nat.le_of_ble_eq_true rfl) (Or.inr (Or.inr fun _ _ => ⟨rfl, rfl, rfl⟩)))
theorem sg_48 {Ω : Om} {K : Ka} {M : Mem} {op : List (Nat × Nat)} (hm : ∀ k, 67 ≤ k → k < 141 → mC M k = 0) (hN : ∀ M', MA op true 49 M M' → GoS Ω false m_MD_init K 424 [some (vR (some (12, 0))), none] [] M' 49 20006) : ∀ M', MA op true 48 M M' → GoS Ω false m_MD_init K 416 [some (vR (some (12, 0))), none] [] M' 48 19996 := by
  intro M' hA
  have hc : mC M' 115 = 0 := hA.c0 (j := 48) hm (Nat.le_of_ble_eq_true rfl)
  refine go_wp ok_MD_init [424] 10 _ _ _ _ _ _ ?_
  conv => whnf
  refine And.intro rfl (And.intro ⟨Nat.le_of_ble_eq_true rfl, Nat.le_of_ble_eq_true rfl⟩ ?_)
  rw [hc]
  exact hN _ (hA.step hm (j := 48) (Nat.le_of_ble_eq_true rfl) (Or.inr (Or.inr fun _ _ => ⟨rfl, rfl, rfl⟩)))
theorem sg_49 {Ω : Om} {K : Ka} {M : Mem} {op : List (Nat × Nat)} (hm : ∀ k, 67 ≤ k → k < 141 → mC M k = 0) (hN : ∀ M', MA op true 50 M M' → GoS Ω false m_MD_init K 432 [some (vR (some (12, 0))), none] [] M' 50 20016) : ∀ M', MA op true 49 M M' → GoS Ω false m_MD_init K 424 [some (vR (some (12, 0))), none] [] M' 49 20006 := by
  intro M' hA
  have hc : mC M' 116 = 0 := hA.c0 (j := 49) hm (Nat.le_of_ble_eq_true rfl)
  refine go_wp ok_MD_init [432] 10 _ _ _ _ _ _ ?_
  conv => whnf
  refine And.intro rfl (And.intro ⟨Nat.le_of_ble_eq_true rfl, Nat.le_of_ble_eq_true rfl⟩ ?_)
  rw [hc]
  exact hN _ (hA.step hm (j := 49) (Nat.le_of_ble_eq_true rfl) (Or.inr (Or.inr fun _ _ => ⟨rfl, rfl, rfl⟩)))
theorem sg_50 {Ω : Om} {K : Ka} {M : Mem} {op : List (Nat × Nat)} (hm : ∀ k, 67 ≤ k → k < 141 → mC M k = 0) (hN : ∀ M', MA op true 51 M M' → GoS Ω false m_MD_init K 440 [some (vR (some (12, 0))), none] [] M' 51 20026) : ∀ M', MA op true 50 M M' → GoS Ω false m_MD_init K 432 [some (vR (some (12, 0))), none] [] M' 50 20016 := by
  intro M' hA
  have hc : mC M' 117 = 0 := hA.c0 (j := 50) hm (Nat.le_of_ble_eq_true rfl)
  refine go_wp ok_MD_init [440] 10 _ _ _ _ _ _ ?_
  conv => whnf
  refine And.intro rfl (And.intro ⟨Nat.le_of_ble_eq_true rfl, Nat.le_of_ble_eq_true rfl⟩ ?_)
  rw [hc]
  exact hN _ (hA.step hm (j := 50) (Nat.le_of_ble_eq_true rfl) (Or.inr (Or.inr fun _ _ => ⟨rfl, rfl, rfl⟩)))
theorem sg_51 {Ω : Om} {K : Ka} {M : Mem} {op : List (Nat × Nat)} (hm : ∀ k, 67 ≤ k → k < 141 → mC M k = 0) (hN : ∀ M', MA op true 52 M M' → GoS Ω false m_MD_init K 448 [some (vR (some (12, 0))), none] [] M' 52 20036) : ∀ M', MA op true 51 M M' → GoS Ω false m_MD_init K 440 [some (vR (some (12, 0))), none] [] M' 51 20026 := by
  intro M' hA
  have hc : mC M' 118 = 0 := hA.c0 (j := 51) hm (Nat.le_of_ble_eq_true rfl)
  refine go_wp ok_MD_init [448] 10 _ _ _ _ _ _ ?_
  conv => whnf
  refine And.intro rfl (And.intro ⟨Nat.le_of_ble_eq_true rfl, Nat.le_of_ble_eq_true rfl⟩ ?_)
  rw [hc]
  exact hN _ (hA.step hm (j := 51) (Nat.le_of_ble_eq_true rfl) (Or.inr (Or.inr fun _ _ => ⟨rfl, rfl, rfl⟩)))
theorem sg_52 {Ω : Om} {K : Ka} {M : Mem} {op : List (Nat × Nat)} (hm : ∀ k, 67 ≤ k → k < 141 → mC M k = 0) (hN : ∀ M', MA op true 53 M M' → GoS Ω false m_MD_init K 456 [some (vR (some (12, 0))), none] [] M' 53 20056) : ∀ M', MA op true 52 M M' → GoS Ω false m_MD_init K 448 [some (vR (some (12, 0))), none] [] M' 52 20036 := by
  intro M' hA
  have hc : mC M' 119 = 0 := hA.c0 (j := 52) hm (Nat.le_of_ble_eq_true rfl)
  refine go_wp ok_MD_init [456] 10 _ _ _ _ _ _ ?_
  conv => whnf
  refine And.intro rfl (And.intro ⟨Nat.le_of_ble_eq_true rfl, Nat.le_of_ble_eq_true rfl⟩ ?_)
  rw [hc]
  exact hN _ (hA.step hm (j := 52) (Nat.le_of_ble_eq_true rfl) (Or.inr (Or.inr fun _ _ => ⟨rfl, rfl, rfl⟩)))
theorem sg_53 {Ω : Om} {K : Ka} {M : Mem} {op : List (Nat × Nat)} (hm : ∀ k, 67 ≤ k → k < 141 → mC M k = 0) (hN : ∀ M', MA op true 54 M M' → GoS Ω false m_MD_init K 464 [some (vR (some (12, 0))), none] [] M' 54 20076) : ∀ M', MA op true 53 M M' → GoS Ω false m_MD_init K 456 [some (vR (some (12, 0))), none] [] M' 53 20056 := by
  intro M' hA
  have hc : mC M' 120 = 0 := hA.c0 (j := 53) hm (Nat.le_of_ble_eq_true rfl)
  refine go_wp ok_MD_init [464] 10 _ _ _ _ _ _ ?_
  conv => whnf
  refine And.intro rfl (And.intro ⟨Nat.le_of_ble_eq_true rfl, Nat.le_of_ble_eq_true rfl⟩ ?_)
  rw [hc]
  exact hN _ (hA.step hm (j := 53) (Nat.le_of_ble_eq_true rfl) (Or.inr (Or.inr fun _ _ => ⟨rfl, rfl, rfl⟩)))
theorem sg_54 {Ω : Om} {K : Ka} {M : Mem} {op : List (Nat × Nat)} (hm : ∀ k, 67 ≤ k → k < 141 → mC M k = 0) (hN : ∀ M', MA op true 55 M M' → GoS Ω false m_MD_init K 473 [some (vR (some (12, 0))), none] [] M' 55 20276) : ∀ M', MA op true 54 M M' → GoS Ω false m_MD_init K 464 [some (vR (some (12, 0))), none] [] M' 54 20076 := by
  intro M' hA
  have hc : mC M' 121 = 0 := hA.c0 (j := 54) hm (Nat.le_of_ble_eq_true rfl)
  refine go_wp ok_MD_init [473] 10 _ _ _ _ _ _ ?_
  conv => whnf
  refine And.intro rfl (And.intro ⟨Nat.le_of_ble_eq_true rfl, Nat.le_of_ble_eq_true rfl⟩ ?_)
  rw [hc]
  exact hN _ (hA.step hm (j := 54) (Nat.le_of_ble_eq_true rfl) (Or.inr (Or.inr fun _ _ => ⟨rfl, rfl, rfl⟩)))
theorem sg_55 {Ω : Om} {K : Ka} {M : Mem} {op : List (Nat × Nat)} (hm : ∀ k, 67 ≤ k → k < 141 → mC M k = 0) (hN : ∀ M', MA op true 56 M M' → GoS Ω false m_MD_init K 482 [some (vR (some (12, 0))), none] [] M' 56 20476) : ∀ M', MA op true 55 M M' → GoS Ω false m_MD_init K 473 [some (vR (some (12, 0))), none] [] M' 55 20276 := by
  intro M' hA
  have hc : mC M' 122 = 0 := hA.c0 (j := 55) hm (Nat.le_of_ble_eq_true rfl)
  refine go_wp ok_MD_init [482] 10 _ _ _ _ _ _ ?_
  conv => whnf
  refine And.intro rfl (And.intro ⟨Nat.le_of_ble_eq_true rfl, Nat.le_of_ble_eq_true rfl⟩ ?_)
  rw [hc]
  exact hN _ (hA.step hm (j := 55) (Nat.le_of_ble_eq_true rfl) (Or.inr (Or.inr fun _ _ => ⟨rfl, rfl, rfl⟩)))
theorem sg_56 {Ω : Om} {K : Ka} {M : Mem} {op : List (Nat × Nat)} (hm : ∀ k, 67 ≤ k → k < 141 → mC M k = 0) (hN : ∀ M', MA op true 57 M M' → GoS Ω false m_MD_init K 491 [some (vR (some (12, 0))), none] [] M' 57 20676) : ∀ M', MA op true 56 M M' → GoS Ω false m_MD_init K 482 [some (vR (some (12, 0))), none] [] M' 56 20476 := by
  intro M' hA
  have hc : mC M' 123 = 0 := hA.c0 (j := 56) hm (Nat.le_of_ble_eq_true rfl)
  refine go_wp ok_MD_init [491] 10 _ _ _ _ _ _ ?_
  conv => whnf
  refine And.intro rfl (And.intro ⟨Nat.le_of_ble_eq_true rfl, Nat.le_of_ble_eq_true rfl⟩ ?_)
  rw [hc]
  exact hN _ (hA.step hm (j := 56) (Nat.le_of_ble_eq_true rfl) (Or.inr (Or.inr fun _ _ => ⟨rfl, rfl, rfl⟩)))
theorem sg_57 {Ω : Om} {K : Ka} {M : Mem} {op : List (Nat × Nat)} (hm : ∀ k, 67 ≤ k → k < 141 → mC M k = 0) (hN : ∀ M', MA op true 58 M M' → GoS Ω false m_MD_init K 500 [some (vR (some (12, 0))), none] [] M' 58 20876) : ∀ M', MA op true 57 M M' → GoS Ω false m_MD_init K 491 [some (vR (some (12, 0))), none] [] M' 57 20676 := by
  intro M' hA
  have hc : mC M' 124 = 0 := hA.c0 (j := 57) hm (Nat.le_of_ble_eq_true rfl)
  refine go_wp ok_MD_init [500] 10 _ _ _ _ _ _ ?_
  conv => whnf
  refine And.intro rfl (And.intro ⟨Nat.le_of_ble_eq_true rfl, Nat.le_of_ble_eq_true rfl⟩ ?_)
  rw [hc]
  exact hN _ (hA.step hm (j := 57) (Nat.le_of_ble_eq_true rfl) (Or.inr (Or.inr fun _ _ => ⟨rfl, rfl, rfl⟩)))
theorem sg_58 {Ω : Om} {K : Ka} {M : Mem} {op : List (Nat × Nat)} (hm : ∀ k, 67 ≤ k → k < 141 → mC M k = 0) (hN : ∀ M', MA op true 59 M M' → GoS Ω false m_MD_init K 508 [some (vR (some (12, 0))), none] [] M' 59 20937) : ∀ M', MA op true 58 M M' → GoS Ω false m_MD_init K 500 [some (vR (some (12, 0))), none] [] M' 58 20876 := by
  intro M' hA
  have hc : mC M' 125 = 0 := hA.c0 (j := 58) hm (Nat.le_of_ble_eq_true rfl)
  refine go_wp ok_MD_init [508] 10 _ _ _ _ _ _ ?_
  conv => whnf
  refine And.intro rfl (And.intro ⟨Nat.le_of_ble_eq_true rfl, Nat.le_of_ble_eq_true rfl⟩ ?_)
  rw [hc]
  exact hN _ (hA.step hm (j := 58) (Nat.le_of_ble_eq_true rfl) (Or.inr (Or.inr fun _ _ => ⟨rfl, rfl, rfl⟩)))
theorem sg_59 {Ω : Om} {K : Ka} {M : Mem} {op : List (Nat × Nat)} (hm : ∀ k, 67 ≤ k → k < 141 → mC M k = 0) (hN : ∀ M', MA op true 60 M M' → GoS Ω false m_MD_init K 516 [some (vR (some (12, 0))), none] [] M' 60 20998) : ∀ M', MA op true 59 M M' → GoS Ω false m_MD_init K 508 [some (vR (some (12, 0))), none] [] M' 59 20937 := by
  intro M' hA
  have hc : mC M' 126 = 0 := hA.c0 (j := 59) hm (Nat.le_of_ble_eq_true rfl)
  refine go_wp ok_MD_init [516] 10 _ _ _ _ _ _ ?_
  conv => whnf
  refine And.intro rfl (And.intro ⟨Nat.le_of_ble_eq_true rfl, Nat.le_of_ble_eq_true rfl⟩ ?_)
  rw [hc]
  exact hN _ (hA.step hm (j := 59) (Nat.le_of_ble_eq_true rfl) (Or.inr (Or.inr fun _ _ => ⟨rfl, rfl, rfl⟩)))
theorem sg_60 {Ω : Om} {K : Ka} {M : Mem} {op : List (Nat × Nat)} (hm : ∀ k, 67 ≤ k → k < 141 → mC M k = 0) (hN : ∀ M', MA op true 61 M M' → GoS Ω false m_MD_init K 524 [some (vR (some (12, 0))), none] [] M' 61 21008) : ∀ M', MA op true 60 M M' → GoS Ω false m_MD_init K 516 [some (vR (some (12, 0))), none] [] M' 60 20998 := by
  intro M' hA
  have hc : mC M' 127 = 0 := hA.c0 (j := 60) hm (Nat.le_of_ble_eq_true rfl)
  refine go_wp ok_MD_init [524] 10 _ _ _ _ _ _ ?_
  conv => whnf
  refine And.intro rfl (And.intro ⟨Nat.le_of_ble_eq_true rfl, Nat.le_of_ble_eq_true rfl⟩ ?_)
  rw [hc]
  exact hN _ (hA.step hm (j := 60) (Nat.le_of_ble_eq_true rfl) (Or.inr (Or.inr fun _ _ => ⟨rfl, rfl, rfl⟩)))
theorem sg_61 {Ω : Om} {K : Ka} {M : Mem} {op : List (Nat × Nat)} (hm : ∀ k, 67 ≤ k → k < 141 → mC M k = 0) (hN : ∀ M', MA op true 62 M M' → GoS Ω false m_MD_init K 532 [some (vR (some (12, 0))), none] [] M' 62 21069) : ∀ M', MA op true 61 M M' → GoS Ω false m_MD_init K 524 [some (vR (some (12, 0))), none] [] M' 61 21008 := by
  intro M' hA
  have hc : mC M' 128 = 0 := hA.c0 (j := 61) hm (Nat.le_of_ble_eq_true rfl)
  refine go_wp ok_MD_init [532] 10 _ _ _ _ _ _ ?_
  conv => whnf
  refine And.intro rfl (And.intro ⟨Nat.le_of_ble_eq_true rfl, Nat.le_of_ble_eq_true rfl⟩ ?_)
  rw [hc]
  exact hN _ (hA.step hm (j := 61) (Nat.le_of_ble_eq_true rfl) (Or.inr (Or.inr fun _ _ => ⟨rfl, rfl, rfl⟩)))
theorem sg_62 {Ω : Om} {K : Ka} {M : Mem} {op : List (Nat × Nat)} (hm : ∀ k, 67 ≤ k → k < 141 → mC M k = 0) (hN : ∀ M', MA op true 63 M M' → GoS Ω false m_MD_init K 540 [some (vR (some (12, 0))), none] [] M' 63 21130) : ∀ M', MA op true 62 M M' → GoS Ω false m_MD_init K 532 [some (vR (some (12, 0))), none] [] M' 62 21069 := by
  intro M' hA
  have hc : mC M' 129 = 0 := hA.c0 (j := 62) hm (Nat.le_of_ble_eq_true rfl)
  refine go_wp ok_MD_init [540] 10 _ _ _ _ _ _ ?_
  conv => whnf
  refine And.intro rfl (And.intro ⟨Nat.le_of_ble_eq_true rfl, Nat.le_of_ble_eq_true rfl⟩ ?_)
  rw [hc]
  exact hN _ (hA.step hm (j := 62) (Nat.le_of_ble_eq_true rfl) (Or.inr (Or.inr fun _ _ => ⟨rfl, rfl, rfl⟩)))
theorem sg_63 {Ω : Om} {K : Ka} {M : Mem} {op : List (Nat × Nat)} (hm : ∀ k, 67 ≤ k → k < 141 → mC M k = 0) (hN : ∀ M', MA op true 64 M M' → GoS Ω false m_MD_init K 548 [some (vR (some (12, 0))), none] [] M' 64 21191) : ∀ M', MA op true 63 M M' → GoS Ω false m_MD_init K 540 [some (vR (some (12, 0))), none] [] M' 63 21130 := by
  intro M' hA
  have hc : mC M' 130 = 0 := hA.c0 (j := 63) hm (Nat.le_of_ble_eq_true rfl)
  refine go_wp ok_MD_init [548] 10 _ _ _ _ _ _ ?_
  conv => whnf
  refine And.intro rfl (And.intro ⟨Nat.le_of_ble_eq_true rfl, Nat.le_of_ble_eq_true rfl⟩ ?_)
  rw [hc]
  exact hN _ (hA.step hm (j := 63) (Nat.le_of_ble_eq_true rfl) (Or.inr (Or.inr fun _ _ => ⟨rfl, rfl, rfl⟩)))
theorem sg_64 {Ω : Om} {K : Ka} {M : Mem} {op : List (Nat × Nat)} (hm : ∀ k, 67 ≤ k → k < 141 → mC M k = 0) (hN : ∀ M', MA op true 65 M M' → GoS Ω false m_MD_init K 556 [some (vR (some (12, 0))), none] [] M' 65 21252) : ∀ M', MA op true 64 M M' → GoS Ω false m_MD_init K 548 [some (vR (some (12, 0))), none] [] M' 64 21191 := by
  intro M' hA
  have hc : mC M' 131 = 0 := hA.c0 (j := 64) hm (Nat.le_of_ble_eq_true rfl)
  refine go_wp ok_MD_init [556] 10 _ _ _ _ _ _ ?_
  conv => whnf
  refine And.intro rfl (And.intro ⟨Nat.le_of_ble_eq_true rfl, Nat.le_of_ble_eq_true rfl⟩ ?_)
  rw [hc]
  exact hN _ (hA.step hm (j := 64) (Nat.le_of_ble_eq_true rfl) (Or.inr (Or.inr fun _ _ => ⟨rfl, rfl, rfl⟩)))
theorem sg_65 {Ω : Om} {K : Ka} {M : Mem} {op : List (Nat × Nat)} (hm : ∀ k, 67 ≤ k → k < 141 → mC M k = 0) (hN : ∀ M', MA op true 66 M M' → GoS Ω false m_MD_init K 564 [some (vR (some (12, 0))), none] [] M' 66 21262) : ∀ M', MA op true 65 M M' → GoS Ω false m_MD_init K 556 [some (vR (some (12, 0))), none] [] M' 65 21252 := by
  intro M' hA
  have hc : mC M' 132 = 0 := hA.c0 (j := 65) hm (Nat.le_of_ble_eq_true rfl)
  refine go_wp ok_MD_init [564] 10 _ _ _ _ _ _ ?_
  conv => whnf
  refine And.intro rfl (And.intro ⟨Nat.le_of_ble_eq_true rfl, Nat.le_of_ble_eq_true rfl⟩ ?_)
  rw [hc]
  exact hN _ (hA.step hm (j := 65) (Nat.le_of_ble_eq_true rfl) (Or.inr (Or.inl rfl)))
theorem sg_66 {Ω : Om} {K : Ka} {M : Mem} {op : List (Nat × Nat)} (hm : ∀ k, 67 ≤ k → k < 141 → mC M k = 0) (hN : ∀ M', MA op true 67 M M' → GoS Ω false m_MD_init K 571 [some (vR (some (12, 0))), none] [] M' 67 21266) : ∀ M', MA op true 66 M M' → GoS Ω false m_MD_init K 564 [some (vR (some (12, 0))), none] [] M' 66 21262 := by
  intro M' hA
  have hc : mC M' 133 = 0 := hA.c0 (j := 66) hm (Nat.le_of_ble_eq_true rfl)
  refine go_wp ok_MD_init [571] 10 _ _ _ _ _ _ ?_
  conv => whnf
  refine And.intro rfl (And.intro ⟨Nat.le_of_ble_eq_true rfl, Nat.le_of_ble_eq_true rfl⟩ ?_)
  rw [hc]
  exact hN _ (hA.step hm (j := 66) (Nat.le_of_ble_eq_true rfl) (Or.inr (Or.inr fun _ _ => ⟨rfl, rfl, rfl⟩)))
theorem sg_67 {Ω : Om} {K : Ka} {M : Mem} {op : List (Nat × Nat)} (hm : ∀ k, 67 ≤ k → k < 141 → mC M k = 0) (hN : ∀ M', MA op true 68 M M' → GoS Ω false m_MD_init K 579 [some (vR (some (12, 0))), none] [] M' 68 21326) : ∀ M', MA op true 67 M M' → GoS Ω false m_MD_init K 571 [some (vR (some (12, 0))), none] [] M' 67 21266 := by
  intro M' hA
  have hc : mC M' 134 = 0 := hA.c0 (j := 67) hm (Nat.le_of_ble_eq_true rfl)
  refine go_wp ok_MD_init [579] 10 _ _ _ _ _ _ ?_
  conv => whnf
  refine And.intro rfl (And.intro ⟨Nat.le_of_ble_eq_true rfl, Nat.le_of_ble_eq_true rfl⟩ ?_)
  rw [hc]
  exact hN _ (hA.step hm (j := 67) (Nat.le_of_ble_eq_true rfl) (Or.inr (Or.inr fun _ _ => ⟨rfl, rfl, rfl⟩)))
theorem sg_68 {Ω : Om} {K : Ka} {M : Mem} {op : List (Nat × Nat)} (hm : ∀ k, 67 ≤ k → k < 141 → mC M k = 0) (hN : ∀ M', MA op true 69 M M' → GoS Ω false m_MD_init K 587 [some (vR (some (12, 0))), none] [] M' 69 21386) : ∀ M', MA op true 68 M M' → GoS Ω false m_MD_init K 579 [some (vR (some (12, 0))), none] [] M' 68 21326 := by
  intro M' hA
  have hc : mC M' 135 = 0 := hA.c0 (j := 68) hm (Nat.le_of_ble_eq_true rfl)
  refine go_wp ok_MD_init [587] 10 _ _ _ _ _ _ ?_
  conv => whnf
  refine And.intro rfl (And.intro ⟨Nat.le_of_ble_eq_true rfl, Nat.le_of_ble_eq_true rfl⟩ ?_)
  rw [hc]
  exact hN _ (hA.step hm (j := 68) (Nat.le_of_ble_eq_true rfl) (Or.inr (Or.inr fun _ _ => ⟨rfl, rfl, rfl⟩)))
theorem sg_69 {Ω : Om} {K : Ka} {M : Mem} {op : List (Nat × Nat)} (hm : ∀ k, 67 ≤ k → k < 141 → mC M k = 0) (hN : ∀ M', MA op true 70 M M' → GoS Ω false m_MD_init K 595 [some (vR (some (12, 0))), none] [] M' 70 21446) : ∀ M', MA op true 69 M M' → GoS Ω false m_MD_init K 587 [some (vR (some (12, 0))), none] [] M' 69 21386 := by
  intro M' hA
  have hc : mC M' 136 = 0 := hA.c0 (j := 69) hm (Nat.le_of_ble_eq_true rfl)
  refine go_wp ok_MD_init [595] 10 _ _ _ _ _ _ ?_
  conv => whnf
  refine And.intro rfl (And.intro ⟨Nat.le_of_ble_eq_true rfl, Nat.le_of_ble_eq_true rfl⟩ ?_)
  rw [hc]
  exact hN _ (hA.step hm (j := 69) (Nat.le_of_ble_eq_true rfl) (Or.inr (Or.inr fun _ _ => ⟨rfl, rfl, rfl⟩)))
theorem sg_70 {Ω : Om} {K : Ka} {M : Mem} {op : List (Nat × Nat)} (hm : ∀ k, 67 ≤ k → k < 141 → mC M k = 0) (hN : ∀ M', MA op true 71 M M' → GoS Ω false m_MD_init K 603 [some (vR (some (12, 0))), none] [] M' 71 21506) : ∀ M', MA op true 70 M M' → GoS Ω false m_MD_init K 595 [some (vR (some (12, 0))), none] [] M' 70 21446 := by
  intro M' hA
  have hc : mC M' 137 = 0 := hA.c0 (j := 70) hm (Nat.le_of_ble_eq_true rfl)
  refine go_wp ok_MD_init [603] 10 _ _ _ _ _ _ ?_
  conv => whnf
  refine And.intro rfl (And.intro ⟨Nat.le_of_ble_eq_true rfl, Nat.le_of_ble_eq_true rfl⟩ ?_)
  rw [hc]
  exact hN _ (hA.step hm (j := 70) (Nat.le_of_ble_eq_true rfl) (Or.inr (Or.inr fun _ _ => ⟨rfl, rfl, rfl⟩)))
theorem sg_71 {Ω : Om} {K : Ka} {M : Mem} {op : List (Nat × Nat)} (hm : ∀ k, 67 ≤ k → k < 141 → mC M k = 0) (hN : ∀ M', MA op true 72 M M' → GoS Ω false m_MD_init K 611 [some (vR (some (12, 0))), none] [] M' 72 21566) : ∀ M', MA op true 71 M M' → GoS Ω false m_MD_init K 603 [some (vR (some (12, 0))), none] [] M' 71 21506 := by
  intro M' hA
  have hc : mC M' 138 = 0 := hA.c0 (j := 71) hm (Nat.le_of_ble_eq_true rfl)
  refine go_wp ok_MD_init [611] 10 _ _ _ _ _ _ ?_
  conv => whnf
  refine And.intro rfl (And.intro ⟨Nat.le_of_ble_eq_true rfl, Nat.le_of_ble_eq_true rfl⟩ ?_)
  rw [hc]
  exact hN _ (hA.step hm (j := 71) (Nat.le_of_ble_eq_true rfl) (Or.inr (Or.inr fun _ _ => ⟨rfl, rfl, rfl⟩)))
theorem sg_72 {Ω : Om} {K : Ka} {M : Mem} {op : List (Nat × Nat)} (hm : ∀ k, 67 ≤ k → k < 141 → mC M k = 0) (hN : ∀ M', MA op true 73 M M' → GoS Ω false m_MD_init K 619 [some (vR (some (12, 0))), none] [] M' 73 21626) : ∀ M', MA op true 72 M M' → GoS Ω false m_MD_init K 611 [some (vR (some (12, 0))), none] [] M' 72 21566 := by
  intro M' hA
  have hc : mC M' 139 = 0 := hA.c0 (j := 72) hm (Nat.le_of_ble_eq_true rfl)
  refine go_wp ok_MD_init [619] 10 _ _ _ _ _ _ ?_
  conv => whnf
  refine And.intro rfl (And.intro ⟨Nat.le_of_ble_eq_true rfl, Nat.le_of_ble_eq_true rfl⟩ ?_)
  rw [hc]
  exact hN _ (hA.step hm (j := 72) (Nat.le_of_ble_eq_true rfl) (Or.inr (Or.inr fun _ _ => ⟨rfl, rfl, rfl⟩)))
theorem sg_73 {Ω : Om} {K : Ka} {M : Mem} {op : List (Nat × Nat)} (hm : ∀ k, 67 ≤ k → k < 141 → mC M k = 0) (hN : ∀ M', MA op true 74 M M' → GoS Ω false m_MD_init K 626 [some (vR (some (12, 0))), none] [] M' 74 21630) : ∀ M', MA op true 73 M M' → GoS Ω false m_MD_init K 619 [some (vR (some (12, 0))), none] [] M' 73 21626 := by
  intro M' hA
  have hc : mC M' 140 = 0 := hA.c0 (j := 73) hm (Nat.le_of_ble_eq_true rfl)
  refine go_wp ok_MD_init [626] 10 _ _ _ _ _ _ ?_
  conv => whnf
  refine And.intro rfl (And.intro ⟨Nat.le_of_ble_eq_true rfl, Nat.le_of_ble_eq_true rfl⟩ ?_)
  rw [hc]
  exact hN _ (hA.step hm (j := 73) (Nat.le_of_ble_eq_true rfl) (Or.inr (Or.inr fun _ _ => ⟨rfl, rfl, rfl⟩)))
theorem sg_put {Ω : Om} {K : Ka} {M : Mem} {op : List (Nat × Nat)} (hN : ∀ M', MA op true 7 M M' → GoS Ω false m_MD_init K 76 [some (vR (some (12, 0))), none] [] M' 7 6034) : ∀ M', MA op false 7 M M' → GoS Ω false m_MD_init K 66 [some (vR (some (12, 0))), none] [] M' 7 6034 := by
  intro M' hA
  refine go_wp ok_MD_init [76] 10 _ _ _ _ _ _ ?_
  exact hN _ hA.put
theorem sg_all {Ω : Om} {K : Ka} {M : Mem} {op : List (Nat × Nat)} (hm : ∀ k, 67 ≤ k → k < 141 → mC M k = 0) (hN : ∀ M', MA op true 74 M M' → GoS Ω false m_MD_init K 626 [some (vR (some (12, 0))), none] [] M' 74 21630) : ∀ M', MA op false 0 M M' → GoS Ω false m_MD_init K 4 [some (vR (some (12, 0))), none] [] M' 0 0 :=
  (sg_0 hm (sg_1 hm (sg_2 hm (sg_3 hm (sg_4 hm (sg_5 hm (sg_6 hm (sg_put (sg_7 hm (sg_8 hm (sg_9 hm (sg_10 hm (sg_11 hm (sg_12 hm (sg_13 hm (sg_14 hm (sg_15 hm (sg_16 hm (sg_17 hm (sg_18 hm (sg_19 hm (sg_20 hm (sg_21 hm (sg_22 hm (sg_23 hm (sg_24 hm (sg_25 hm (sg_26 hm (sg_27 hm (sg_28 hm (sg_29 hm (sg_30 hm (sg_31 hm (sg_32 hm (sg_33 hm (sg_34 hm (sg_35 hm (sg_36 hm (sg_37 hm (sg_38 hm (sg_39 hm (sg_40 hm (sg_41 hm (sg_42 hm (sg_43 hm (sg_44 hm (sg_45 hm (sg_46 hm (sg_47 hm (sg_48 hm (sg_49 hm (sg_50 hm (sg_51 hm (sg_52 hm (sg_53 hm (sg_54 hm (sg_55 hm (sg_56 hm (sg_57 hm (sg_58 hm (sg_59 hm (sg_60 hm (sg_61 hm (sg_62 hm (sg_63 hm (sg_64 hm (sg_65 hm (sg_66 hm (sg_67 hm (sg_68 hm (sg_69 hm (sg_70 hm (sg_71 hm (sg_72 hm (sg_73 hm hN)))))))))))))))))))))))))))))))))))))))))))))))))))))))))))))))))))))))))))
