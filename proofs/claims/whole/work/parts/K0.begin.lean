/-! THE BEGINNING: both sides as they are made -/
theorem rd0 {Ω : Om} {M : Mem} (h : Ready Ω M) {k s : Nat} (hk : k < 141) (hi : 0 < iC k) (hs : s < kSz k) : mI M k 0 s = iI k s ∧ mJ M k 0 s = iJ k s := by
  have := h.1 k 0 hk (by rw [h.2.1 k hk]; exact hi) (by simp) s hs
  exact ⟨this.1, this.2.1⟩
theorem Inv0 {Ω : Om} {M : Mem} (h : Ready Ω M) : Inv M := by
  have r1 : ∀ {k s : Nat}, k < 141 → 0 < iC k → s < kSz k → mI M k 0 s = iI k s := fun a b c => (rd0 h a b c).1
  have r2 : ∀ {k s : Nat}, k < 141 → 0 < iC k → s < kSz k → mJ M k 0 s = iJ k s := fun a b c => (rd0 h a b c).2
  refine ⟨0, none, ⟨Nat.zero_le _, (r1 (by decide) (by decide) (by decide)).trans rfl, (r1 (by decide) (by decide) (by decide)).trans rfl, fun t ht => by cases ht⟩, ⟨Nat.zero_le _, (r1 (by decide) (by decide) (by decide)).trans rfl, (r1 (by decide) (by decide) (by decide)).trans rfl, fun t ht => by cases ht⟩, ?_, ⟨0, Nat.zero_le _, (r1 (by decide) (by decide) (by decide)).trans rfl, (r1 (by decide) (by decide) (by decide)).trans rfl, fun i hi => absurd hi (Nat.not_lt_zero _)⟩, fun i hi => ?_, fun t ht => absurd ht (Nat.not_lt_zero _), fun i hi => ?_, fun i hi => ?_, ⟨0, Nat.zero_le _, (r1 (by decide) (by decide) (by decide)).trans rfl, (r1 (by decide) (by decide) (by decide)).trans rfl, fun r hr => absurd hr (Nat.not_lt_zero _)⟩, fun i hi => ?_, fun i hi => ?_, fun j hj => ?_, fun s hs => ?_, fun s hs => ?_⟩
  · rw [r1 (by decide) (by decide) (by decide), r1 (by decide) (by decide) (by decide)]
    rfl
  · rw [r1 (k := 65) (by decide) (by decide) (Nat.lt_of_lt_of_le hi (by decide)), r1 (k := 112) (by decide) (by decide) (Nat.lt_of_lt_of_le hi (by decide))]
    exact ⟨rfl, show -30 ≤ (0 : Int32).toInt ∧ (0 : Int32).toInt ≤ 30 from ⟨by decide, by decide⟩⟩
  · have e : mI M 126 0 i = 0 := r1 (k := 126) (by decide) (by decide) (Nat.lt_of_lt_of_le hi (by decide))
    refine ⟨Or.inl e, ?_⟩
    rw [if_pos e]
    exact r2 (k := 53) (by decide) (by decide) (Nat.lt_of_lt_of_le hi (by decide))
  · rw [r1 (k := 22) (by decide) (by decide) (Nat.lt_of_lt_of_le hi (by decide)), r1 (k := 132) (by decide) (by decide) (Nat.lt_of_lt_of_le hi (by decide))]
    rfl
  · exact r1 (k := 37) (by decide) (by decide) (Nat.lt_of_lt_of_le hi (by decide))
  · exact r1 (k := 36) (by decide) (by decide) (Nat.lt_of_lt_of_le hi (by decide))
  · exact (h.2.2 142 (by decide) 0 j).1.trans (by
      show (if 142 = kSCR ∧ 0 = 0 then oX Ω j else if 142 = kSH ∧ 0 = 0 then shT j else 0) = shT j
      rw [if_neg (by decide), if_pos (by decide)])
  · exact r2 (k := 49) (by decide) (by decide) (Nat.lt_of_lt_of_le hs (by decide))
  · exact r2 (k := 73) (by decide) (by decide) (Nat.lt_of_lt_of_le hs (by decide))
