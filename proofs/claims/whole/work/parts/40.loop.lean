/-! LAW'S LOOP: its frame -/
theorem ll_end {N j : Nat} (hN : N ≤ 3072) (hj : j ≤ 4000) (h : ¬ Int32.ofNat N - 6 < nI j) : j + 6 ≤ N := by
  have h1 := Int32.not_lt.mp h
  have h2 := Int32.le_iff_toInt_le.mp h1
  have e1 : (nI j).toInt = (j : Int) := nI_toInt (by omega)
  have e2 : (Int32.ofNat N - 6).toInt = (N : Int) - 6 := by
    rw [Int32.toInt_sub, show (Int32.ofNat N).toInt = (N : Int) from nI_toInt (n := N) (by omega), show (6 : Int32).toInt = 6 from rfl]
    exact Int.bmod_eq_of_le (by omega) (by omega)
  rw [e1, e2] at h2
  omega
/-- the loop, given what one turn does -/
theorem law_loop {Ω : Om} (hN : oN Ω ≤ 3072) {K : Ka} (hK : ∀ M, K (some (vI 1)) M) (Inv : Mem → Prop) {c n : Nat}
    (hb : ∀ (M : Mem) (j : Nat), j + 6 ≤ oN Ω → Inv M → (∀ M', Inv M' → GoS Ω true m_LAW_law K 18 [some (vR (some (kSCR, 0))), some (vR (some (11, 0))), some (vR (some (12, 0))), some (vI (nI (j + 6)))] [] M' c n) → GoS Ω true m_LAW_law K 27 [some (vR (some (kSCR, 0))), some (vR (some (11, 0))), some (vR (some (12, 0))), some (vI (nI j))] [] M c n) :
    ∀ (f j : Nat) (M : Mem), oN Ω + 6 - j ≤ f → j ≤ oN Ω → Inv M → GoS Ω true m_LAW_law K 18 [some (vR (some (kSCR, 0))), some (vR (some (11, 0))), some (vR (some (12, 0))), some (vI (nI j))] [] M c n := by
  intro f
  induction f with
  | zero => intro j M h1 h2; omega
  | succ f ih =>
    intro j M h1 h2 hI
    refine go_wp ok_LAW_law [27, 1414] 12 _ _ _ _ _ _ ?_
    conv => whnf
    refine And.intro (fun g => ?_) (fun g => ?_)
    · refine go_wp ok_LAW_law [] 12 _ _ _ _ _ _ ?_
      conv => whnf
      exact ⟨Or.inr rfl, hK M⟩
    · have h6 := ll_end hN (Nat.le_trans h2 (by omega)) g
      exact hb M j h6 hI (fun M' hI' => ih (j + 6) M' (by omega) h6 hI')
