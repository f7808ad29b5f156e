/-! THE LAW'S TURNS -/
theorem cell_ix (j k : Nat) : nI j + nI k = nI (j + k) := nI_add j k
set_option maxHeartbeats 2000000 in
theorem k_feed {Ω : Om} {M : Mem} {j : Nat} {K : Ka} {c n : Nat} (hN : oN Ω ≤ 3072) (hj : j + 6 ≤ oN Ω) (hI : Inv M) (nx : ∀ M', Inv M' → GoS Ω true m_LAW_law K 18 [some (vR (some (kSCR, 0))), some (vR (some (11, 0))), some (vR (some (12, 0))), some (vI (nI (j + 6)))] [] M' c n) : GoS Ω true m_LAW_law K 180 [some (vR (some (kSCR, 0))), some (vR (some (11, 0))), some (vR (some (12, 0))), some (vI (nI j))] [] M c n := by
  obtain ⟨P, hP1, hP2⟩ := t_feed Ω M (mI M 141 0 (j + 1)) (mI M 141 0 (j + 2)) (mI M 141 0 (j + 3)) (mI M 141 0 (j + 4)) (mI M 141 0 (j + 5)) hI
  refine go_wp ok_LAW_law [18] 250 _ _ _ _ _ _ ?_
  conv => whnf
  rw [show nI j + 1 = nI (j + 1) from nI_add j 1]
  refine And.intro (vp_in_nI (by omega) (by omega)) ?_
  rw [nI_clamp (by omega)]
  conv => whnf
  rw [show nI j + 2 = nI (j + 2) from nI_add j 2]
  refine And.intro (vp_in_nI (by omega) (by omega)) ?_
  rw [nI_clamp (by omega)]
  conv => whnf
  rw [show nI j + 3 = nI (j + 3) from nI_add j 3]
  refine And.intro (vp_in_nI (by omega) (by omega)) ?_
  rw [nI_clamp (by omega)]
  conv => whnf
  rw [show nI j + 4 = nI (j + 4) from nI_add j 4]
  refine And.intro (vp_in_nI (by omega) (by omega)) ?_
  rw [nI_clamp (by omega)]
  conv => whnf
  rw [show nI j + 5 = nI (j + 5) from nI_add j 5]
  refine And.intro (vp_in_nI (by omega) (by omega)) ?_
  rw [nI_clamp (by omega)]
  conv => whnf
  refine ⟨P, hP1, trivial, ?_⟩
  intro r M1 hr
  obtain ⟨⟨v, rfl⟩, h141, hC⟩ := hP2 r M1 hr
  conv => whnf
  rw [show nI j + 1 = nI (j + 1) from nI_add j 1]
  refine And.intro (vp_in_nI (by omega) (by omega)) ?_
  rw [nI_clamp (by omega), h141]
  conv => whnf
  rw [show nI j + 2 = nI (j + 2) from nI_add j 2]
  refine And.intro (vp_in_nI (by omega) (by omega)) ?_
  rw [nI_clamp (by omega), h141]
  conv => whnf
  rw [show nI j + 3 = nI (j + 3) from nI_add j 3]
  refine And.intro (vp_in_nI (by omega) (by omega)) ?_
  rw [nI_clamp (by omega), h141]
  conv => whnf
  rw [show nI j + 4 = nI (j + 4) from nI_add j 4]
  refine And.intro (vp_in_nI (by omega) (by omega)) ?_
  rw [nI_clamp (by omega), h141]
  conv => whnf
  rw [show nI j + 5 = nI (j + 5) from nI_add j 5]
  refine And.intro (vp_in_nI (by omega) (by omega)) ?_
  rw [nI_clamp (by omega), h141]
  conv => whnf
  refine ⟨_, hC, trivial, ?_⟩
  rintro r2 M2 ⟨rfl, hI2, -⟩
  conv => whnf
  refine And.intro (fun _ => ?_) (fun q => absurd rfl q)
  conv => whnf
  rw [show nI j + 6 = nI (j + 6) from nI_add j 6]
  exact nx M2 hI2
set_option maxHeartbeats 2000000 in
theorem k_back {Ω : Om} {M : Mem} {j : Nat} {K : Ka} {c n : Nat} (hN : oN Ω ≤ 3072) (hj : j + 6 ≤ oN Ω) (hI : Inv M) (nx : ∀ M', Inv M' → GoS Ω true m_LAW_law K 18 [some (vR (some (kSCR, 0))), some (vR (some (11, 0))), some (vR (some (12, 0))), some (vI (nI (j + 6)))] [] M' c n) : GoS Ω true m_LAW_law K 243 [some (vR (some (kSCR, 0))), some (vR (some (11, 0))), some (vR (some (12, 0))), some (vI (nI j))] [] M c n := by
  obtain ⟨P, hP1, hP2⟩ := t_back Ω M (mI M 141 0 (j + 1)) hI
  refine go_wp ok_LAW_law [18] 250 _ _ _ _ _ _ ?_
  conv => whnf
  rw [show nI j + 1 = nI (j + 1) from nI_add j 1]
  refine And.intro (vp_in_nI (by omega) (by omega)) ?_
  rw [nI_clamp (by omega)]
  conv => whnf
  refine ⟨P, hP1, trivial, ?_⟩
  intro r M1 hr
  obtain ⟨⟨v, rfl⟩, h141, hC⟩ := hP2 r M1 hr
  conv => whnf
  rw [show nI j + 1 = nI (j + 1) from nI_add j 1]
  refine And.intro (vp_in_nI (by omega) (by omega)) ?_
  rw [nI_clamp (by omega), h141]
  conv => whnf
  refine ⟨_, hC, trivial, ?_⟩
  rintro r2 M2 ⟨rfl, hI2, -⟩
  conv => whnf
  refine And.intro (fun _ => ?_) (fun q => absurd rfl q)
  conv => whnf
  rw [show nI j + 6 = nI (j + 6) from nI_add j 6]
  exact nx M2 hI2
set_option maxHeartbeats 2000000 in
theorem k_read {Ω : Om} {M : Mem} {j : Nat} {K : Ka} {c n : Nat} (hN : oN Ω ≤ 3072) (hj : j + 6 ≤ oN Ω) (hI : Inv M) (nx : ∀ M', Inv M' → GoS Ω true m_LAW_law K 18 [some (vR (some (kSCR, 0))), some (vR (some (11, 0))), some (vR (some (12, 0))), some (vI (nI (j + 6)))] [] M' c n) : GoS Ω true m_LAW_law K 266 [some (vR (some (kSCR, 0))), some (vR (some (11, 0))), some (vR (some (12, 0))), some (vI (nI j))] [] M c n := by
  obtain ⟨P, hP1, hP2⟩ := t_read Ω M  hI
  refine go_wp ok_LAW_law [18] 250 _ _ _ _ _ _ ?_
  conv => whnf
  refine ⟨P, hP1, trivial, ?_⟩
  intro r M1 hr
  obtain ⟨⟨v, rfl⟩, h141, hC⟩ := hP2 r M1 hr
  conv => whnf
  refine ⟨_, hC, trivial, ?_⟩
  rintro r2 M2 ⟨rfl, hI2, -⟩
  conv => whnf
  refine And.intro (fun _ => ?_) (fun q => absurd rfl q)
  conv => whnf
  rw [show nI j + 6 = nI (j + 6) from nI_add j 6]
  exact nx M2 hI2
set_option maxHeartbeats 2000000 in
theorem k_place {Ω : Om} {M : Mem} {j : Nat} {K : Ka} {c n : Nat} (hN : oN Ω ≤ 3072) (hj : j + 6 ≤ oN Ω) (hI : Inv M) (nx : ∀ M', Inv M' → GoS Ω true m_LAW_law K 18 [some (vR (some (kSCR, 0))), some (vR (some (11, 0))), some (vR (some (12, 0))), some (vI (nI (j + 6)))] [] M' c n) : GoS Ω true m_LAW_law K 279 [some (vR (some (kSCR, 0))), some (vR (some (11, 0))), some (vR (some (12, 0))), some (vI (nI j))] [] M c n := by
  obtain ⟨P, hP1, hP2⟩ := t_place Ω M  hI
  refine go_wp ok_LAW_law [18] 250 _ _ _ _ _ _ ?_
  conv => whnf
  refine ⟨P, hP1, trivial, ?_⟩
  intro r M1 hr
  obtain ⟨⟨v, rfl⟩, h141, hC⟩ := hP2 r M1 hr
  conv => whnf
  refine ⟨_, hC, trivial, ?_⟩
  rintro r2 M2 ⟨rfl, hI2, -⟩
  conv => whnf
  refine And.intro (fun _ => ?_) (fun q => absurd rfl q)
  conv => whnf
  rw [show nI j + 6 = nI (j + 6) from nI_add j 6]
  exact nx M2 hI2
set_option maxHeartbeats 2000000 in
theorem k_use {Ω : Om} {M : Mem} {j : Nat} {K : Ka} {c n : Nat} (hN : oN Ω ≤ 3072) (hj : j + 6 ≤ oN Ω) (hI : Inv M) (nx : ∀ M', Inv M' → GoS Ω true m_LAW_law K 18 [some (vR (some (kSCR, 0))), some (vR (some (11, 0))), some (vR (some (12, 0))), some (vI (nI (j + 6)))] [] M' c n) : GoS Ω true m_LAW_law K 292 [some (vR (some (kSCR, 0))), some (vR (some (11, 0))), some (vR (some (12, 0))), some (vI (nI j))] [] M c n := by
  obtain ⟨P, hP1, hP2⟩ := t_use Ω M (mI M 141 0 (j + 1)) hI
  refine go_wp ok_LAW_law [18] 250 _ _ _ _ _ _ ?_
  conv => whnf
  rw [show nI j + 1 = nI (j + 1) from nI_add j 1]
  refine And.intro (vp_in_nI (by omega) (by omega)) ?_
  rw [nI_clamp (by omega)]
  conv => whnf
  refine ⟨P, hP1, trivial, ?_⟩
  intro r M1 hr
  obtain ⟨⟨v, rfl⟩, h141, hC⟩ := hP2 r M1 hr
  conv => whnf
  rw [show nI j + 1 = nI (j + 1) from nI_add j 1]
  refine And.intro (vp_in_nI (by omega) (by omega)) ?_
  rw [nI_clamp (by omega), h141]
  conv => whnf
  refine ⟨_, hC, trivial, ?_⟩
  rintro r2 M2 ⟨rfl, hI2, -⟩
  conv => whnf
  refine And.intro (fun _ => ?_) (fun q => absurd rfl q)
  conv => whnf
  rw [show nI j + 6 = nI (j + 6) from nI_add j 6]
  exact nx M2 hI2
set_option maxHeartbeats 2000000 in
theorem k_law {Ω : Om} {M : Mem} {j : Nat} {K : Ka} {c n : Nat} (hN : oN Ω ≤ 3072) (hj : j + 6 ≤ oN Ω) (hI : Inv M) (nx : ∀ M', Inv M' → GoS Ω true m_LAW_law K 18 [some (vR (some (kSCR, 0))), some (vR (some (11, 0))), some (vR (some (12, 0))), some (vI (nI (j + 6)))] [] M' c n) : GoS Ω true m_LAW_law K 315 [some (vR (some (kSCR, 0))), some (vR (some (11, 0))), some (vR (some (12, 0))), some (vI (nI j))] [] M c n := by
  obtain ⟨P, hP1, hP2⟩ := t_law Ω M (mI M 141 0 (j + 1)) (mI M 141 0 (j + 2)) hI
  refine go_wp ok_LAW_law [18] 250 _ _ _ _ _ _ ?_
  conv => whnf
  rw [show nI j + 1 = nI (j + 1) from nI_add j 1]
  refine And.intro (vp_in_nI (by omega) (by omega)) ?_
  rw [nI_clamp (by omega)]
  conv => whnf
  rw [show nI j + 2 = nI (j + 2) from nI_add j 2]
  refine And.intro (vp_in_nI (by omega) (by omega)) ?_
  rw [nI_clamp (by omega)]
  conv => whnf
  refine ⟨P, hP1, trivial, ?_⟩
  intro r M1 hr
  obtain ⟨⟨v, rfl⟩, h141, hC⟩ := hP2 r M1 hr
  conv => whnf
  rw [show nI j + 1 = nI (j + 1) from nI_add j 1]
  refine And.intro (vp_in_nI (by omega) (by omega)) ?_
  rw [nI_clamp (by omega), h141]
  conv => whnf
  rw [show nI j + 2 = nI (j + 2) from nI_add j 2]
  refine And.intro (vp_in_nI (by omega) (by omega)) ?_
  rw [nI_clamp (by omega), h141]
  conv => whnf
  refine ⟨_, hC, trivial, ?_⟩
  rintro r2 M2 ⟨rfl, hI2, -⟩
  conv => whnf
  refine And.intro (fun _ => ?_) (fun q => absurd rfl q)
  conv => whnf
  rw [show nI j + 6 = nI (j + 6) from nI_add j 6]
  exact nx M2 hI2
set_option maxHeartbeats 2000000 in
theorem k_hinge {Ω : Om} {M : Mem} {j : Nat} {K : Ka} {c n : Nat} (hN : oN Ω ≤ 3072) (hj : j + 6 ≤ oN Ω) (hI : Inv M) (nx : ∀ M', Inv M' → GoS Ω true m_LAW_law K 18 [some (vR (some (kSCR, 0))), some (vR (some (11, 0))), some (vR (some (12, 0))), some (vI (nI (j + 6)))] [] M' c n) : GoS Ω true m_LAW_law K 348 [some (vR (some (kSCR, 0))), some (vR (some (11, 0))), some (vR (some (12, 0))), some (vI (nI j))] [] M c n := by
  obtain ⟨P, hP1, hP2⟩ := t_hinge Ω M (mI M 141 0 (j + 1)) (mI M 141 0 (j + 2)) hI
  refine go_wp ok_LAW_law [18] 250 _ _ _ _ _ _ ?_
  conv => whnf
  rw [show nI j + 1 = nI (j + 1) from nI_add j 1]
  refine And.intro (vp_in_nI (by omega) (by omega)) ?_
  rw [nI_clamp (by omega)]
  conv => whnf
  rw [show nI j + 2 = nI (j + 2) from nI_add j 2]
  refine And.intro (vp_in_nI (by omega) (by omega)) ?_
  rw [nI_clamp (by omega)]
  conv => whnf
  refine ⟨P, hP1, trivial, ?_⟩
  intro r M1 hr
  obtain ⟨⟨v, rfl⟩, h141, hC⟩ := hP2 r M1 hr
  conv => whnf
  rw [show nI j + 1 = nI (j + 1) from nI_add j 1]
  refine And.intro (vp_in_nI (by omega) (by omega)) ?_
  rw [nI_clamp (by omega), h141]
  conv => whnf
  rw [show nI j + 2 = nI (j + 2) from nI_add j 2]
  refine And.intro (vp_in_nI (by omega) (by omega)) ?_
  rw [nI_clamp (by omega), h141]
  conv => whnf
  refine ⟨_, hC, trivial, ?_⟩
  rintro r2 M2 ⟨rfl, hI2, -⟩
  conv => whnf
  refine And.intro (fun _ => ?_) (fun q => absurd rfl q)
  conv => whnf
  rw [show nI j + 6 = nI (j + 6) from nI_add j 6]
  exact nx M2 hI2
set_option maxHeartbeats 2000000 in
theorem k_gust {Ω : Om} {M : Mem} {j : Nat} {K : Ka} {c n : Nat} (hN : oN Ω ≤ 3072) (hj : j + 6 ≤ oN Ω) (hI : Inv M) (nx : ∀ M', Inv M' → GoS Ω true m_LAW_law K 18 [some (vR (some (kSCR, 0))), some (vR (some (11, 0))), some (vR (some (12, 0))), some (vI (nI (j + 6)))] [] M' c n) : GoS Ω true m_LAW_law K 381 [some (vR (some (kSCR, 0))), some (vR (some (11, 0))), some (vR (some (12, 0))), some (vI (nI j))] [] M c n := by
  obtain ⟨P, hP1, hP2⟩ := t_gust Ω M (mI M 141 0 (j + 1)) (mI M 141 0 (j + 2)) hI
  refine go_wp ok_LAW_law [18] 250 _ _ _ _ _ _ ?_
  conv => whnf
  rw [show nI j + 1 = nI (j + 1) from nI_add j 1]
  refine And.intro (vp_in_nI (by omega) (by omega)) ?_
  rw [nI_clamp (by omega)]
  conv => whnf
  rw [show nI j + 2 = nI (j + 2) from nI_add j 2]
  refine And.intro (vp_in_nI (by omega) (by omega)) ?_
  rw [nI_clamp (by omega)]
  conv => whnf
  refine ⟨P, hP1, trivial, ?_⟩
  intro r M1 hr
  obtain ⟨⟨v, rfl⟩, h141, hC⟩ := hP2 r M1 hr
  conv => whnf
  rw [show nI j + 1 = nI (j + 1) from nI_add j 1]
  refine And.intro (vp_in_nI (by omega) (by omega)) ?_
  rw [nI_clamp (by omega), h141]
  conv => whnf
  rw [show nI j + 2 = nI (j + 2) from nI_add j 2]
  refine And.intro (vp_in_nI (by omega) (by omega)) ?_
  rw [nI_clamp (by omega), h141]
  conv => whnf
  refine ⟨_, hC, trivial, ?_⟩
  rintro r2 M2 ⟨rfl, hI2, -⟩
  conv => whnf
  refine And.intro (fun _ => ?_) (fun q => absurd rfl q)
  conv => whnf
  rw [show nI j + 6 = nI (j + 6) from nI_add j 6]
  exact nx M2 hI2
set_option maxHeartbeats 2000000 in
theorem k_solve {Ω : Om} {M : Mem} {j : Nat} {K : Ka} {c n : Nat} (hN : oN Ω ≤ 3072) (hj : j + 6 ≤ oN Ω) (hI : Inv M) (nx : ∀ M', Inv M' → GoS Ω true m_LAW_law K 18 [some (vR (some (kSCR, 0))), some (vR (some (11, 0))), some (vR (some (12, 0))), some (vI (nI (j + 6)))] [] M' c n) : GoS Ω true m_LAW_law K 414 [some (vR (some (kSCR, 0))), some (vR (some (11, 0))), some (vR (some (12, 0))), some (vI (nI j))] [] M c n := by
  by_cases h4 : mI M 141 0 (j + 4) = 0
  · obtain ⟨P, hP1, hP2⟩ := t_solve Ω M (mI M 141 0 (j + 1)) (mI M 141 0 (j + 2)) (mI M 141 0 (j + 3)) 0 (Or.inl rfl) hI
    refine go_wp ok_LAW_law [18] 250 _ _ _ _ _ _ ?_
    conv => whnf
    rw [show nI j + 1 = nI (j + 1) from nI_add j 1]
    refine And.intro (vp_in_nI (by omega) (by omega)) ?_
    rw [nI_clamp (by omega)]
    conv => whnf
    rw [show nI j + 2 = nI (j + 2) from nI_add j 2]
    refine And.intro (vp_in_nI (by omega) (by omega)) ?_
    rw [nI_clamp (by omega)]
    conv => whnf
    rw [show nI j + 3 = nI (j + 3) from nI_add j 3]
    refine And.intro (vp_in_nI (by omega) (by omega)) ?_
    rw [nI_clamp (by omega)]
    conv => whnf
    rw [show nI j + 4 = nI (j + 4) from nI_add j 4]
    refine And.intro (vp_in_nI (by omega) (by omega)) ?_
    rw [nI_clamp (by omega)]
    conv => whnf
    refine And.intro (fun _ => ?_) (fun q => absurd h4 q)
    conv => whnf
    refine ⟨P, hP1, trivial, ?_⟩
    intro r M1 hr
    obtain ⟨⟨v, rfl⟩, h141, hC⟩ := hP2 r M1 hr
    conv => whnf
    rw [show nI j + 1 = nI (j + 1) from nI_add j 1]
    refine And.intro (vp_in_nI (by omega) (by omega)) ?_
    rw [nI_clamp (by omega), h141]
    conv => whnf
    rw [show nI j + 2 = nI (j + 2) from nI_add j 2]
    refine And.intro (vp_in_nI (by omega) (by omega)) ?_
    rw [nI_clamp (by omega), h141]
    conv => whnf
    rw [show nI j + 3 = nI (j + 3) from nI_add j 3]
    refine And.intro (vp_in_nI (by omega) (by omega)) ?_
    rw [nI_clamp (by omega), h141]
    conv => whnf
    rw [show nI j + 4 = nI (j + 4) from nI_add j 4]
    refine And.intro (vp_in_nI (by omega) (by omega)) ?_
    rw [nI_clamp (by omega), h141]
    conv => whnf
    refine And.intro (fun _ => ?_) (fun q => absurd h4 q)
    conv => whnf
    refine ⟨_, hC, trivial, ?_⟩
    rintro r2 M2 ⟨rfl, hI2, -⟩
    conv => whnf
    refine And.intro (fun _ => ?_) (fun q => absurd rfl q)
    conv => whnf
    rw [show nI j + 6 = nI (j + 6) from nI_add j 6]
    exact nx M2 hI2
  · obtain ⟨P, hP1, hP2⟩ := t_solve Ω M (mI M 141 0 (j + 1)) (mI M 141 0 (j + 2)) (mI M 141 0 (j + 3)) 1 (Or.inr rfl) hI
    refine go_wp ok_LAW_law [18] 250 _ _ _ _ _ _ ?_
    conv => whnf
    rw [show nI j + 1 = nI (j + 1) from nI_add j 1]
    refine And.intro (vp_in_nI (by omega) (by omega)) ?_
    rw [nI_clamp (by omega)]
    conv => whnf
    rw [show nI j + 2 = nI (j + 2) from nI_add j 2]
    refine And.intro (vp_in_nI (by omega) (by omega)) ?_
    rw [nI_clamp (by omega)]
    conv => whnf
    rw [show nI j + 3 = nI (j + 3) from nI_add j 3]
    refine And.intro (vp_in_nI (by omega) (by omega)) ?_
    rw [nI_clamp (by omega)]
    conv => whnf
    rw [show nI j + 4 = nI (j + 4) from nI_add j 4]
    refine And.intro (vp_in_nI (by omega) (by omega)) ?_
    rw [nI_clamp (by omega)]
    conv => whnf
    refine And.intro (fun q => absurd q h4) (fun _ => ?_)
    conv => whnf
    refine ⟨P, hP1, trivial, ?_⟩
    intro r M1 hr
    obtain ⟨⟨v, rfl⟩, h141, hC⟩ := hP2 r M1 hr
    conv => whnf
    rw [show nI j + 1 = nI (j + 1) from nI_add j 1]
    refine And.intro (vp_in_nI (by omega) (by omega)) ?_
    rw [nI_clamp (by omega), h141]
    conv => whnf
    rw [show nI j + 2 = nI (j + 2) from nI_add j 2]
    refine And.intro (vp_in_nI (by omega) (by omega)) ?_
    rw [nI_clamp (by omega), h141]
    conv => whnf
    rw [show nI j + 3 = nI (j + 3) from nI_add j 3]
    refine And.intro (vp_in_nI (by omega) (by omega)) ?_
    rw [nI_clamp (by omega), h141]
    conv => whnf
    rw [show nI j + 4 = nI (j + 4) from nI_add j 4]
    refine And.intro (vp_in_nI (by omega) (by omega)) ?_
    rw [nI_clamp (by omega), h141]
    conv => whnf
    refine And.intro (fun q => absurd q h4) (fun _ => ?_)
    conv => whnf
    refine ⟨_, hC, trivial, ?_⟩
    rintro r2 M2 ⟨rfl, hI2, -⟩
    conv => whnf
    refine And.intro (fun _ => ?_) (fun q => absurd rfl q)
    conv => whnf
    rw [show nI j + 6 = nI (j + 6) from nI_add j 6]
    exact nx M2 hI2
set_option maxHeartbeats 2000000 in
theorem k_ground {Ω : Om} {M : Mem} {j : Nat} {K : Ka} {c n : Nat} (hN : oN Ω ≤ 3072) (hj : j + 6 ≤ oN Ω) (hI : Inv M) (nx : ∀ M', Inv M' → GoS Ω true m_LAW_law K 18 [some (vR (some (kSCR, 0))), some (vR (some (11, 0))), some (vR (some (12, 0))), some (vI (nI (j + 6)))] [] M' c n) : GoS Ω true m_LAW_law K 483 [some (vR (some (kSCR, 0))), some (vR (some (11, 0))), some (vR (some (12, 0))), some (vI (nI j))] [] M c n := by
  obtain ⟨P, hP1, hP2⟩ := t_ground Ω M (mI M 141 0 (j + 1)) (mI M 141 0 (j + 2)) (mI M 141 0 (j + 3)) (mI M 141 0 (j + 4)) hI
  refine go_wp ok_LAW_law [18] 250 _ _ _ _ _ _ ?_
  conv => whnf
  rw [show nI j + 1 = nI (j + 1) from nI_add j 1]
  refine And.intro (vp_in_nI (by omega) (by omega)) ?_
  rw [nI_clamp (by omega)]
  conv => whnf
  rw [show nI j + 2 = nI (j + 2) from nI_add j 2]
  refine And.intro (vp_in_nI (by omega) (by omega)) ?_
  rw [nI_clamp (by omega)]
  conv => whnf
  rw [show nI j + 3 = nI (j + 3) from nI_add j 3]
  refine And.intro (vp_in_nI (by omega) (by omega)) ?_
  rw [nI_clamp (by omega)]
  conv => whnf
  rw [show nI j + 4 = nI (j + 4) from nI_add j 4]
  refine And.intro (vp_in_nI (by omega) (by omega)) ?_
  rw [nI_clamp (by omega)]
  conv => whnf
  refine ⟨P, hP1, trivial, ?_⟩
  intro r M1 hr
  obtain ⟨⟨v, rfl⟩, h141, hC⟩ := hP2 r M1 hr
  conv => whnf
  rw [show nI j + 1 = nI (j + 1) from nI_add j 1]
  refine And.intro (vp_in_nI (by omega) (by omega)) ?_
  rw [nI_clamp (by omega), h141]
  conv => whnf
  rw [show nI j + 2 = nI (j + 2) from nI_add j 2]
  refine And.intro (vp_in_nI (by omega) (by omega)) ?_
  rw [nI_clamp (by omega), h141]
  conv => whnf
  rw [show nI j + 3 = nI (j + 3) from nI_add j 3]
  refine And.intro (vp_in_nI (by omega) (by omega)) ?_
  rw [nI_clamp (by omega), h141]
  conv => whnf
  rw [show nI j + 4 = nI (j + 4) from nI_add j 4]
  refine And.intro (vp_in_nI (by omega) (by omega)) ?_
  rw [nI_clamp (by omega), h141]
  conv => whnf
  refine ⟨_, hC, trivial, ?_⟩
  rintro r2 M2 ⟨rfl, hI2, -⟩
  conv => whnf
  refine And.intro (fun _ => ?_) (fun q => absurd rfl q)
  conv => whnf
  rw [show nI j + 6 = nI (j + 6) from nI_add j 6]
  exact nx M2 hI2
set_option maxHeartbeats 2000000 in
theorem k_follow {Ω : Om} {M : Mem} {j : Nat} {K : Ka} {c n : Nat} (hN : oN Ω ≤ 3072) (hj : j + 6 ≤ oN Ω) (hI : Inv M) (nx : ∀ M', Inv M' → GoS Ω true m_LAW_law K 18 [some (vR (some (kSCR, 0))), some (vR (some (11, 0))), some (vR (some (12, 0))), some (vI (nI (j + 6)))] [] M' c n) : GoS Ω true m_LAW_law K 536 [some (vR (some (kSCR, 0))), some (vR (some (11, 0))), some (vR (some (12, 0))), some (vI (nI j))] [] M c n := by
  obtain ⟨P, hP1, hP2⟩ := t_follow Ω M (mI M 141 0 (j + 1)) (mI M 141 0 (j + 2)) (mI M 141 0 (j + 3)) (mI M 141 0 (j + 4)) (mI M 141 0 (j + 5)) hI
  refine go_wp ok_LAW_law [18] 250 _ _ _ _ _ _ ?_
  conv => whnf
  rw [show nI j + 1 = nI (j + 1) from nI_add j 1]
  refine And.intro (vp_in_nI (by omega) (by omega)) ?_
  rw [nI_clamp (by omega)]
  conv => whnf
  rw [show nI j + 2 = nI (j + 2) from nI_add j 2]
  refine And.intro (vp_in_nI (by omega) (by omega)) ?_
  rw [nI_clamp (by omega)]
  conv => whnf
  rw [show nI j + 3 = nI (j + 3) from nI_add j 3]
  refine And.intro (vp_in_nI (by omega) (by omega)) ?_
  rw [nI_clamp (by omega)]
  conv => whnf
  rw [show nI j + 4 = nI (j + 4) from nI_add j 4]
  refine And.intro (vp_in_nI (by omega) (by omega)) ?_
  rw [nI_clamp (by omega)]
  conv => whnf
  rw [show nI j + 5 = nI (j + 5) from nI_add j 5]
  refine And.intro (vp_in_nI (by omega) (by omega)) ?_
  rw [nI_clamp (by omega)]
  conv => whnf
  refine ⟨P, hP1, trivial, ?_⟩
  intro r M1 hr
  obtain ⟨⟨v, rfl⟩, h141, hC⟩ := hP2 r M1 hr
  conv => whnf
  rw [show nI j + 1 = nI (j + 1) from nI_add j 1]
  refine And.intro (vp_in_nI (by omega) (by omega)) ?_
  rw [nI_clamp (by omega), h141]
  conv => whnf
  rw [show nI j + 2 = nI (j + 2) from nI_add j 2]
  refine And.intro (vp_in_nI (by omega) (by omega)) ?_
  rw [nI_clamp (by omega), h141]
  conv => whnf
  rw [show nI j + 3 = nI (j + 3) from nI_add j 3]
  refine And.intro (vp_in_nI (by omega) (by omega)) ?_
  rw [nI_clamp (by omega), h141]
  conv => whnf
  rw [show nI j + 4 = nI (j + 4) from nI_add j 4]
  refine And.intro (vp_in_nI (by omega) (by omega)) ?_
  rw [nI_clamp (by omega), h141]
  conv => whnf
  rw [show nI j + 5 = nI (j + 5) from nI_add j 5]
  refine And.intro (vp_in_nI (by omega) (by omega)) ?_
  rw [nI_clamp (by omega), h141]
  conv => whnf
  refine ⟨_, hC, trivial, ?_⟩
  rintro r2 M2 ⟨rfl, hI2, -⟩
  conv => whnf
  refine And.intro (fun _ => ?_) (fun q => absurd rfl q)
  conv => whnf
  rw [show nI j + 6 = nI (j + 6) from nI_add j 6]
  exact nx M2 hI2
set_option maxHeartbeats 2000000 in
theorem k_strip {Ω : Om} {M : Mem} {j : Nat} {K : Ka} {c n : Nat} (hN : oN Ω ≤ 3072) (hj : j + 6 ≤ oN Ω) (hI : Inv M) (nx : ∀ M', Inv M' → GoS Ω true m_LAW_law K 18 [some (vR (some (kSCR, 0))), some (vR (some (11, 0))), some (vR (some (12, 0))), some (vI (nI (j + 6)))] [] M' c n) : GoS Ω true m_LAW_law K 599 [some (vR (some (kSCR, 0))), some (vR (some (11, 0))), some (vR (some (12, 0))), some (vI (nI j))] [] M c n := by
  obtain ⟨P, hP1, hP2⟩ := t_strip Ω M (mI M 141 0 (j + 1)) (mI M 141 0 (j + 2)) (mI M 141 0 (j + 3)) hI
  refine go_wp ok_LAW_law [18] 250 _ _ _ _ _ _ ?_
  conv => whnf
  rw [show nI j + 1 = nI (j + 1) from nI_add j 1]
  refine And.intro (vp_in_nI (by omega) (by omega)) ?_
  rw [nI_clamp (by omega)]
  conv => whnf
  rw [show nI j + 2 = nI (j + 2) from nI_add j 2]
  refine And.intro (vp_in_nI (by omega) (by omega)) ?_
  rw [nI_clamp (by omega)]
  conv => whnf
  rw [show nI j + 3 = nI (j + 3) from nI_add j 3]
  refine And.intro (vp_in_nI (by omega) (by omega)) ?_
  rw [nI_clamp (by omega)]
  conv => whnf
  refine ⟨P, hP1, trivial, ?_⟩
  intro r M1 hr
  obtain ⟨⟨v, rfl⟩, h141, hC⟩ := hP2 r M1 hr
  conv => whnf
  rw [show nI j + 1 = nI (j + 1) from nI_add j 1]
  refine And.intro (vp_in_nI (by omega) (by omega)) ?_
  rw [nI_clamp (by omega), h141]
  conv => whnf
  rw [show nI j + 2 = nI (j + 2) from nI_add j 2]
  refine And.intro (vp_in_nI (by omega) (by omega)) ?_
  rw [nI_clamp (by omega), h141]
  conv => whnf
  rw [show nI j + 3 = nI (j + 3) from nI_add j 3]
  refine And.intro (vp_in_nI (by omega) (by omega)) ?_
  rw [nI_clamp (by omega), h141]
  conv => whnf
  refine ⟨_, hC, trivial, ?_⟩
  rintro r2 M2 ⟨rfl, hI2, -⟩
  conv => whnf
  refine And.intro (fun _ => ?_) (fun q => absurd rfl q)
  conv => whnf
  rw [show nI j + 6 = nI (j + 6) from nI_add j 6]
  exact nx M2 hI2
set_option maxHeartbeats 2000000 in
theorem k_edge {Ω : Om} {M : Mem} {j : Nat} {K : Ka} {c n : Nat} (hN : oN Ω ≤ 3072) (hj : j + 6 ≤ oN Ω) (hI : Inv M) (nx : ∀ M', Inv M' → GoS Ω true m_LAW_law K 18 [some (vR (some (kSCR, 0))), some (vR (some (11, 0))), some (vR (some (12, 0))), some (vI (nI (j + 6)))] [] M' c n) : GoS Ω true m_LAW_law K 642 [some (vR (some (kSCR, 0))), some (vR (some (11, 0))), some (vR (some (12, 0))), some (vI (nI j))] [] M c n := by
  obtain ⟨P, hP1, hP2⟩ := t_edge Ω M (mI M 141 0 (j + 1)) (mI M 141 0 (j + 2)) hI
  refine go_wp ok_LAW_law [18] 250 _ _ _ _ _ _ ?_
  conv => whnf
  rw [show nI j + 1 = nI (j + 1) from nI_add j 1]
  refine And.intro (vp_in_nI (by omega) (by omega)) ?_
  rw [nI_clamp (by omega)]
  conv => whnf
  rw [show nI j + 2 = nI (j + 2) from nI_add j 2]
  refine And.intro (vp_in_nI (by omega) (by omega)) ?_
  rw [nI_clamp (by omega)]
  conv => whnf
  refine ⟨P, hP1, trivial, ?_⟩
  intro r M1 hr
  obtain ⟨⟨v, rfl⟩, h141, hC⟩ := hP2 r M1 hr
  conv => whnf
  rw [show nI j + 1 = nI (j + 1) from nI_add j 1]
  refine And.intro (vp_in_nI (by omega) (by omega)) ?_
  rw [nI_clamp (by omega), h141]
  conv => whnf
  rw [show nI j + 2 = nI (j + 2) from nI_add j 2]
  refine And.intro (vp_in_nI (by omega) (by omega)) ?_
  rw [nI_clamp (by omega), h141]
  conv => whnf
  refine ⟨_, hC, trivial, ?_⟩
  rintro r2 M2 ⟨rfl, hI2, -⟩
  conv => whnf
  refine And.intro (fun _ => ?_) (fun q => absurd rfl q)
  conv => whnf
  rw [show nI j + 6 = nI (j + 6) from nI_add j 6]
  exact nx M2 hI2
set_option maxHeartbeats 2000000 in
theorem k_force {Ω : Om} {M : Mem} {j : Nat} {K : Ka} {c n : Nat} (hN : oN Ω ≤ 3072) (hj : j + 6 ≤ oN Ω) (hI : Inv M) (nx : ∀ M', Inv M' → GoS Ω true m_LAW_law K 18 [some (vR (some (kSCR, 0))), some (vR (some (11, 0))), some (vR (some (12, 0))), some (vI (nI (j + 6)))] [] M' c n) : GoS Ω true m_LAW_law K 675 [some (vR (some (kSCR, 0))), some (vR (some (11, 0))), some (vR (some (12, 0))), some (vI (nI j))] [] M c n := by
  obtain ⟨P, hP1, hP2⟩ := t_force Ω M (mI M 141 0 (j + 1)) (mI M 141 0 (j + 2)) hI
  refine go_wp ok_LAW_law [18] 250 _ _ _ _ _ _ ?_
  conv => whnf
  rw [show nI j + 1 = nI (j + 1) from nI_add j 1]
  refine And.intro (vp_in_nI (by omega) (by omega)) ?_
  rw [nI_clamp (by omega)]
  conv => whnf
  rw [show nI j + 2 = nI (j + 2) from nI_add j 2]
  refine And.intro (vp_in_nI (by omega) (by omega)) ?_
  rw [nI_clamp (by omega)]
  conv => whnf
  refine ⟨P, hP1, trivial, ?_⟩
  intro r M1 hr
  obtain ⟨⟨v, rfl⟩, h141, hC⟩ := hP2 r M1 hr
  conv => whnf
  rw [show nI j + 1 = nI (j + 1) from nI_add j 1]
  refine And.intro (vp_in_nI (by omega) (by omega)) ?_
  rw [nI_clamp (by omega), h141]
  conv => whnf
  rw [show nI j + 2 = nI (j + 2) from nI_add j 2]
  refine And.intro (vp_in_nI (by omega) (by omega)) ?_
  rw [nI_clamp (by omega), h141]
  conv => whnf
  refine ⟨_, hC, trivial, ?_⟩
  rintro r2 M2 ⟨rfl, hI2, -⟩
  conv => whnf
  refine And.intro (fun _ => ?_) (fun q => absurd ((lg_cmp_eq v v).mpr rfl) q)
  conv => whnf
  rw [show nI j + 6 = nI (j + 6) from nI_add j 6]
  exact nx M2 hI2
set_option maxHeartbeats 2000000 in
theorem k_barred {Ω : Om} {M : Mem} {j : Nat} {K : Ka} {c n : Nat} (hN : oN Ω ≤ 3072) (hj : j + 6 ≤ oN Ω) (hI : Inv M) (nx : ∀ M', Inv M' → GoS Ω true m_LAW_law K 18 [some (vR (some (kSCR, 0))), some (vR (some (11, 0))), some (vR (some (12, 0))), some (vI (nI (j + 6)))] [] M' c n) : GoS Ω true m_LAW_law K 709 [some (vR (some (kSCR, 0))), some (vR (some (11, 0))), some (vR (some (12, 0))), some (vI (nI j))] [] M c n := by
  obtain ⟨P, hP1, hP2⟩ := t_barred Ω M (mI M 141 0 (j + 1)) hI
  refine go_wp ok_LAW_law [18] 250 _ _ _ _ _ _ ?_
  conv => whnf
  rw [show nI j + 1 = nI (j + 1) from nI_add j 1]
  refine And.intro (vp_in_nI (by omega) (by omega)) ?_
  rw [nI_clamp (by omega)]
  conv => whnf
  refine ⟨P, hP1, trivial, ?_⟩
  intro r M1 hr
  obtain ⟨⟨v, rfl⟩, h141, hC⟩ := hP2 r M1 hr
  conv => whnf
  rw [show nI j + 1 = nI (j + 1) from nI_add j 1]
  refine And.intro (vp_in_nI (by omega) (by omega)) ?_
  rw [nI_clamp (by omega), h141]
  conv => whnf
  refine ⟨_, hC, trivial, ?_⟩
  rintro r2 M2 ⟨rfl, hI2, -⟩
  conv => whnf
  refine And.intro (fun _ => ?_) (fun q => absurd rfl q)
  conv => whnf
  rw [show nI j + 6 = nI (j + 6) from nI_add j 6]
  exact nx M2 hI2
set_option maxHeartbeats 2000000 in
theorem k_where {Ω : Om} {M : Mem} {j : Nat} {K : Ka} {c n : Nat} (hN : oN Ω ≤ 3072) (hj : j + 6 ≤ oN Ω) (hI : Inv M) (nx : ∀ M', Inv M' → GoS Ω true m_LAW_law K 18 [some (vR (some (kSCR, 0))), some (vR (some (11, 0))), some (vR (some (12, 0))), some (vI (nI (j + 6)))] [] M' c n) : GoS Ω true m_LAW_law K 732 [some (vR (some (kSCR, 0))), some (vR (some (11, 0))), some (vR (some (12, 0))), some (vI (nI j))] [] M c n := by
  obtain ⟨P, hP1, hP2⟩ := t_where Ω M (mI M 141 0 (j + 1)) hI
  refine go_wp ok_LAW_law [18] 250 _ _ _ _ _ _ ?_
  conv => whnf
  rw [show nI j + 1 = nI (j + 1) from nI_add j 1]
  refine And.intro (vp_in_nI (by omega) (by omega)) ?_
  rw [nI_clamp (by omega)]
  conv => whnf
  refine ⟨P, hP1, trivial, ?_⟩
  intro r M1 hr
  obtain ⟨⟨v, rfl⟩, h141, hC⟩ := hP2 r M1 hr
  conv => whnf
  rw [show nI j + 1 = nI (j + 1) from nI_add j 1]
  refine And.intro (vp_in_nI (by omega) (by omega)) ?_
  rw [nI_clamp (by omega), h141]
  conv => whnf
  refine ⟨_, hC, trivial, ?_⟩
  rintro r2 M2 ⟨rfl, hI2, -⟩
  conv => whnf
  refine And.intro (fun _ => ?_) (fun q => absurd rfl q)
  conv => whnf
  rw [show nI j + 6 = nI (j + 6) from nI_add j 6]
  exact nx M2 hI2
set_option maxHeartbeats 2000000 in
theorem k_curve {Ω : Om} {M : Mem} {j : Nat} {K : Ka} {c n : Nat} (hN : oN Ω ≤ 3072) (hj : j + 6 ≤ oN Ω) (hI : Inv M) (nx : ∀ M', Inv M' → GoS Ω true m_LAW_law K 18 [some (vR (some (kSCR, 0))), some (vR (some (11, 0))), some (vR (some (12, 0))), some (vI (nI (j + 6)))] [] M' c n) : GoS Ω true m_LAW_law K 755 [some (vR (some (kSCR, 0))), some (vR (some (11, 0))), some (vR (some (12, 0))), some (vI (nI j))] [] M c n := by
  obtain ⟨P, hP1, hP2⟩ := t_curve Ω M (mI M 141 0 (j + 1)) (mI M 141 0 (j + 2)) (mI M 141 0 (j + 3)) (mI M 141 0 (j + 4)) hI
  refine go_wp ok_LAW_law [18] 250 _ _ _ _ _ _ ?_
  conv => whnf
  rw [show nI j + 1 = nI (j + 1) from nI_add j 1]
  refine And.intro (vp_in_nI (by omega) (by omega)) ?_
  rw [nI_clamp (by omega)]
  conv => whnf
  rw [show nI j + 2 = nI (j + 2) from nI_add j 2]
  refine And.intro (vp_in_nI (by omega) (by omega)) ?_
  rw [nI_clamp (by omega)]
  conv => whnf
  rw [show nI j + 3 = nI (j + 3) from nI_add j 3]
  refine And.intro (vp_in_nI (by omega) (by omega)) ?_
  rw [nI_clamp (by omega)]
  conv => whnf
  rw [show nI j + 4 = nI (j + 4) from nI_add j 4]
  refine And.intro (vp_in_nI (by omega) (by omega)) ?_
  rw [nI_clamp (by omega)]
  conv => whnf
  refine ⟨P, hP1, trivial, ?_⟩
  intro r M1 hr
  obtain ⟨⟨v, rfl⟩, h141, hC⟩ := hP2 r M1 hr
  conv => whnf
  rw [show nI j + 1 = nI (j + 1) from nI_add j 1]
  refine And.intro (vp_in_nI (by omega) (by omega)) ?_
  rw [nI_clamp (by omega), h141]
  conv => whnf
  rw [show nI j + 2 = nI (j + 2) from nI_add j 2]
  refine And.intro (vp_in_nI (by omega) (by omega)) ?_
  rw [nI_clamp (by omega), h141]
  conv => whnf
  rw [show nI j + 3 = nI (j + 3) from nI_add j 3]
  refine And.intro (vp_in_nI (by omega) (by omega)) ?_
  rw [nI_clamp (by omega), h141]
  conv => whnf
  rw [show nI j + 4 = nI (j + 4) from nI_add j 4]
  refine And.intro (vp_in_nI (by omega) (by omega)) ?_
  rw [nI_clamp (by omega), h141]
  conv => whnf
  refine ⟨_, hC, trivial, ?_⟩
  rintro r2 M2 ⟨rfl, hI2, -⟩
  conv => whnf
  refine And.intro (fun _ => ?_) (fun q => absurd rfl q)
  conv => whnf
  rw [show nI j + 6 = nI (j + 6) from nI_add j 6]
  exact nx M2 hI2
set_option maxHeartbeats 2000000 in
theorem k_lift {Ω : Om} {M : Mem} {j : Nat} {K : Ka} {c n : Nat} (hN : oN Ω ≤ 3072) (hj : j + 6 ≤ oN Ω) (hI : Inv M) (nx : ∀ M', Inv M' → GoS Ω true m_LAW_law K 18 [some (vR (some (kSCR, 0))), some (vR (some (11, 0))), some (vR (some (12, 0))), some (vI (nI (j + 6)))] [] M' c n) : GoS Ω true m_LAW_law K 808 [some (vR (some (kSCR, 0))), some (vR (some (11, 0))), some (vR (some (12, 0))), some (vI (nI j))] [] M c n := by
  obtain ⟨P, hP1, hP2⟩ := t_lift Ω M (mI M 141 0 (j + 1)) hI
  refine go_wp ok_LAW_law [18] 250 _ _ _ _ _ _ ?_
  conv => whnf
  rw [show nI j + 1 = nI (j + 1) from nI_add j 1]
  refine And.intro (vp_in_nI (by omega) (by omega)) ?_
  rw [nI_clamp (by omega)]
  conv => whnf
  refine ⟨P, hP1, trivial, ?_⟩
  intro r M1 hr
  obtain ⟨⟨v, rfl⟩, h141, hC⟩ := hP2 r M1 hr
  conv => whnf
  rw [show nI j + 1 = nI (j + 1) from nI_add j 1]
  refine And.intro (vp_in_nI (by omega) (by omega)) ?_
  rw [nI_clamp (by omega), h141]
  conv => whnf
  refine ⟨_, hC, trivial, ?_⟩
  rintro r2 M2 ⟨rfl, hI2, -⟩
  conv => whnf
  refine And.intro (fun _ => ?_) (fun q => absurd ((lg_cmp_eq v v).mpr rfl) q)
  conv => whnf
  rw [show nI j + 6 = nI (j + 6) from nI_add j 6]
  exact nx M2 hI2
set_option maxHeartbeats 2000000 in
theorem k_trims {Ω : Om} {M : Mem} {j : Nat} {K : Ka} {c n : Nat} (hN : oN Ω ≤ 3072) (hj : j + 6 ≤ oN Ω) (hI : Inv M) (nx : ∀ M', Inv M' → GoS Ω true m_LAW_law K 18 [some (vR (some (kSCR, 0))), some (vR (some (11, 0))), some (vR (some (12, 0))), some (vI (nI (j + 6)))] [] M' c n) : GoS Ω true m_LAW_law K 832 [some (vR (some (kSCR, 0))), some (vR (some (11, 0))), some (vR (some (12, 0))), some (vI (nI j))] [] M c n := by
  obtain ⟨P, hP1, hP2⟩ := t_trims Ω M (mI M 141 0 (j + 1)) (mI M 141 0 (j + 2)) (mI M 141 0 (j + 3)) hI
  refine go_wp ok_LAW_law [18] 250 _ _ _ _ _ _ ?_
  conv => whnf
  rw [show nI j + 1 = nI (j + 1) from nI_add j 1]
  refine And.intro (vp_in_nI (by omega) (by omega)) ?_
  rw [nI_clamp (by omega)]
  conv => whnf
  rw [show nI j + 2 = nI (j + 2) from nI_add j 2]
  refine And.intro (vp_in_nI (by omega) (by omega)) ?_
  rw [nI_clamp (by omega)]
  conv => whnf
  rw [show nI j + 3 = nI (j + 3) from nI_add j 3]
  refine And.intro (vp_in_nI (by omega) (by omega)) ?_
  rw [nI_clamp (by omega)]
  conv => whnf
  refine ⟨P, hP1, trivial, ?_⟩
  intro r M1 hr
  obtain ⟨⟨v, rfl⟩, h141, hC⟩ := hP2 r M1 hr
  conv => whnf
  rw [show nI j + 1 = nI (j + 1) from nI_add j 1]
  refine And.intro (vp_in_nI (by omega) (by omega)) ?_
  rw [nI_clamp (by omega), h141]
  conv => whnf
  rw [show nI j + 2 = nI (j + 2) from nI_add j 2]
  refine And.intro (vp_in_nI (by omega) (by omega)) ?_
  rw [nI_clamp (by omega), h141]
  conv => whnf
  rw [show nI j + 3 = nI (j + 3) from nI_add j 3]
  refine And.intro (vp_in_nI (by omega) (by omega)) ?_
  rw [nI_clamp (by omega), h141]
  conv => whnf
  refine ⟨_, hC, trivial, ?_⟩
  rintro r2 M2 ⟨rfl, hI2, -⟩
  conv => whnf
  refine And.intro (fun _ => ?_) (fun q => absurd rfl q)
  conv => whnf
  rw [show nI j + 6 = nI (j + 6) from nI_add j 6]
  exact nx M2 hI2
set_option maxHeartbeats 2000000 in
theorem k_trim {Ω : Om} {M : Mem} {j : Nat} {K : Ka} {c n : Nat} (hN : oN Ω ≤ 3072) (hj : j + 6 ≤ oN Ω) (hI : Inv M) (nx : ∀ M', Inv M' → GoS Ω true m_LAW_law K 18 [some (vR (some (kSCR, 0))), some (vR (some (11, 0))), some (vR (some (12, 0))), some (vI (nI (j + 6)))] [] M' c n) : GoS Ω true m_LAW_law K 875 [some (vR (some (kSCR, 0))), some (vR (some (11, 0))), some (vR (some (12, 0))), some (vI (nI j))] [] M c n := by
  obtain ⟨P, hP1, hP2⟩ := t_trim Ω M (mI M 141 0 (j + 1)) (mI M 141 0 (j + 2)) (mI M 141 0 (j + 3)) (mI M 141 0 (j + 4)) hI
  refine go_wp ok_LAW_law [18] 250 _ _ _ _ _ _ ?_
  conv => whnf
  rw [show nI j + 1 = nI (j + 1) from nI_add j 1]
  refine And.intro (vp_in_nI (by omega) (by omega)) ?_
  rw [nI_clamp (by omega)]
  conv => whnf
  rw [show nI j + 2 = nI (j + 2) from nI_add j 2]
  refine And.intro (vp_in_nI (by omega) (by omega)) ?_
  rw [nI_clamp (by omega)]
  conv => whnf
  rw [show nI j + 3 = nI (j + 3) from nI_add j 3]
  refine And.intro (vp_in_nI (by omega) (by omega)) ?_
  rw [nI_clamp (by omega)]
  conv => whnf
  rw [show nI j + 4 = nI (j + 4) from nI_add j 4]
  refine And.intro (vp_in_nI (by omega) (by omega)) ?_
  rw [nI_clamp (by omega)]
  conv => whnf
  refine ⟨P, hP1, trivial, ?_⟩
  intro r M1 hr
  obtain ⟨⟨v, rfl⟩, h141, hC⟩ := hP2 r M1 hr
  conv => whnf
  rw [show nI j + 1 = nI (j + 1) from nI_add j 1]
  refine And.intro (vp_in_nI (by omega) (by omega)) ?_
  rw [nI_clamp (by omega), h141]
  conv => whnf
  rw [show nI j + 2 = nI (j + 2) from nI_add j 2]
  refine And.intro (vp_in_nI (by omega) (by omega)) ?_
  rw [nI_clamp (by omega), h141]
  conv => whnf
  rw [show nI j + 3 = nI (j + 3) from nI_add j 3]
  refine And.intro (vp_in_nI (by omega) (by omega)) ?_
  rw [nI_clamp (by omega), h141]
  conv => whnf
  rw [show nI j + 4 = nI (j + 4) from nI_add j 4]
  refine And.intro (vp_in_nI (by omega) (by omega)) ?_
  rw [nI_clamp (by omega), h141]
  conv => whnf
  refine ⟨_, hC, trivial, ?_⟩
  rintro r2 M2 ⟨rfl, hI2, -⟩
  conv => whnf
  refine And.intro (fun _ => ?_) (fun q => absurd rfl q)
  conv => whnf
  rw [show nI j + 6 = nI (j + 6) from nI_add j 6]
  exact nx M2 hI2
set_option maxHeartbeats 2000000 in
theorem k_stays {Ω : Om} {M : Mem} {j : Nat} {K : Ka} {c n : Nat} (hN : oN Ω ≤ 3072) (hj : j + 6 ≤ oN Ω) (hI : Inv M) (nx : ∀ M', Inv M' → GoS Ω true m_LAW_law K 18 [some (vR (some (kSCR, 0))), some (vR (some (11, 0))), some (vR (some (12, 0))), some (vI (nI (j + 6)))] [] M' c n) : GoS Ω true m_LAW_law K 928 [some (vR (some (kSCR, 0))), some (vR (some (11, 0))), some (vR (some (12, 0))), some (vI (nI j))] [] M c n := by
  obtain ⟨P, hP1, hP2⟩ := t_stays Ω M (mI M 141 0 (j + 1)) (mI M 141 0 (j + 2)) (mI M 141 0 (j + 3)) (mI M 141 0 (j + 4)) hI
  refine go_wp ok_LAW_law [18] 250 _ _ _ _ _ _ ?_
  conv => whnf
  rw [show nI j + 1 = nI (j + 1) from nI_add j 1]
  refine And.intro (vp_in_nI (by omega) (by omega)) ?_
  rw [nI_clamp (by omega)]
  conv => whnf
  rw [show nI j + 2 = nI (j + 2) from nI_add j 2]
  refine And.intro (vp_in_nI (by omega) (by omega)) ?_
  rw [nI_clamp (by omega)]
  conv => whnf
  rw [show nI j + 3 = nI (j + 3) from nI_add j 3]
  refine And.intro (vp_in_nI (by omega) (by omega)) ?_
  rw [nI_clamp (by omega)]
  conv => whnf
  rw [show nI j + 4 = nI (j + 4) from nI_add j 4]
  refine And.intro (vp_in_nI (by omega) (by omega)) ?_
  rw [nI_clamp (by omega)]
  conv => whnf
  refine ⟨P, hP1, trivial, ?_⟩
  intro r M1 hr
  obtain ⟨⟨v, rfl⟩, h141, hC⟩ := hP2 r M1 hr
  conv => whnf
  rw [show nI j + 1 = nI (j + 1) from nI_add j 1]
  refine And.intro (vp_in_nI (by omega) (by omega)) ?_
  rw [nI_clamp (by omega), h141]
  conv => whnf
  rw [show nI j + 2 = nI (j + 2) from nI_add j 2]
  refine And.intro (vp_in_nI (by omega) (by omega)) ?_
  rw [nI_clamp (by omega), h141]
  conv => whnf
  rw [show nI j + 3 = nI (j + 3) from nI_add j 3]
  refine And.intro (vp_in_nI (by omega) (by omega)) ?_
  rw [nI_clamp (by omega), h141]
  conv => whnf
  rw [show nI j + 4 = nI (j + 4) from nI_add j 4]
  refine And.intro (vp_in_nI (by omega) (by omega)) ?_
  rw [nI_clamp (by omega), h141]
  conv => whnf
  refine ⟨_, hC, trivial, ?_⟩
  rintro r2 M2 ⟨rfl, hI2, -⟩
  conv => whnf
  refine And.intro (fun _ => ?_) (fun q => absurd rfl q)
  conv => whnf
  rw [show nI j + 6 = nI (j + 6) from nI_add j 6]
  exact nx M2 hI2
set_option maxHeartbeats 2000000 in
theorem k_fold {Ω : Om} {M : Mem} {j : Nat} {K : Ka} {c n : Nat} (hN : oN Ω ≤ 3072) (hj : j + 6 ≤ oN Ω) (hI : Inv M) (nx : ∀ M', Inv M' → GoS Ω true m_LAW_law K 18 [some (vR (some (kSCR, 0))), some (vR (some (11, 0))), some (vR (some (12, 0))), some (vI (nI (j + 6)))] [] M' c n) : GoS Ω true m_LAW_law K 981 [some (vR (some (kSCR, 0))), some (vR (some (11, 0))), some (vR (some (12, 0))), some (vI (nI j))] [] M c n := by
  obtain ⟨P, hP1, hP2⟩ := t_fold Ω M (mI M 141 0 (j + 1)) (mI M 141 0 (j + 2)) hI
  refine go_wp ok_LAW_law [18] 250 _ _ _ _ _ _ ?_
  conv => whnf
  rw [show nI j + 1 = nI (j + 1) from nI_add j 1]
  refine And.intro (vp_in_nI (by omega) (by omega)) ?_
  rw [nI_clamp (by omega)]
  conv => whnf
  rw [show nI j + 2 = nI (j + 2) from nI_add j 2]
  refine And.intro (vp_in_nI (by omega) (by omega)) ?_
  rw [nI_clamp (by omega)]
  conv => whnf
  refine ⟨P, hP1, trivial, ?_⟩
  intro r M1 hr
  obtain ⟨⟨v, rfl⟩, h141, hC⟩ := hP2 r M1 hr
  conv => whnf
  rw [show nI j + 1 = nI (j + 1) from nI_add j 1]
  refine And.intro (vp_in_nI (by omega) (by omega)) ?_
  rw [nI_clamp (by omega), h141]
  conv => whnf
  rw [show nI j + 2 = nI (j + 2) from nI_add j 2]
  refine And.intro (vp_in_nI (by omega) (by omega)) ?_
  rw [nI_clamp (by omega), h141]
  conv => whnf
  refine ⟨_, hC, trivial, ?_⟩
  rintro r2 M2 ⟨rfl, hI2, -⟩
  conv => whnf
  refine And.intro (fun _ => ?_) (fun q => absurd rfl q)
  conv => whnf
  rw [show nI j + 6 = nI (j + 6) from nI_add j 6]
  exact nx M2 hI2
set_option maxHeartbeats 2000000 in
theorem k_shakes {Ω : Om} {M : Mem} {j : Nat} {K : Ka} {c n : Nat} (hN : oN Ω ≤ 3072) (hj : j + 6 ≤ oN Ω) (hI : Inv M) (nx : ∀ M', Inv M' → GoS Ω true m_LAW_law K 18 [some (vR (some (kSCR, 0))), some (vR (some (11, 0))), some (vR (some (12, 0))), some (vI (nI (j + 6)))] [] M' c n) : GoS Ω true m_LAW_law K 1014 [some (vR (some (kSCR, 0))), some (vR (some (11, 0))), some (vR (some (12, 0))), some (vI (nI j))] [] M c n := by
  obtain ⟨P, hP1, hP2⟩ := t_shakes Ω M (mI M 141 0 (j + 1)) (mI M 141 0 (j + 2)) (mI M 141 0 (j + 3)) hI
  refine go_wp ok_LAW_law [18] 250 _ _ _ _ _ _ ?_
  conv => whnf
  rw [show nI j + 1 = nI (j + 1) from nI_add j 1]
  refine And.intro (vp_in_nI (by omega) (by omega)) ?_
  rw [nI_clamp (by omega)]
  conv => whnf
  rw [show nI j + 2 = nI (j + 2) from nI_add j 2]
  refine And.intro (vp_in_nI (by omega) (by omega)) ?_
  rw [nI_clamp (by omega)]
  conv => whnf
  rw [show nI j + 3 = nI (j + 3) from nI_add j 3]
  refine And.intro (vp_in_nI (by omega) (by omega)) ?_
  rw [nI_clamp (by omega)]
  conv => whnf
  refine ⟨P, hP1, trivial, ?_⟩
  intro r M1 hr
  obtain ⟨⟨v, rfl⟩, h141, hC⟩ := hP2 r M1 hr
  conv => whnf
  rw [show nI j + 1 = nI (j + 1) from nI_add j 1]
  refine And.intro (vp_in_nI (by omega) (by omega)) ?_
  rw [nI_clamp (by omega), h141]
  conv => whnf
  rw [show nI j + 2 = nI (j + 2) from nI_add j 2]
  refine And.intro (vp_in_nI (by omega) (by omega)) ?_
  rw [nI_clamp (by omega), h141]
  conv => whnf
  rw [show nI j + 3 = nI (j + 3) from nI_add j 3]
  refine And.intro (vp_in_nI (by omega) (by omega)) ?_
  rw [nI_clamp (by omega), h141]
  conv => whnf
  refine ⟨_, hC, trivial, ?_⟩
  rintro r2 M2 ⟨rfl, hI2, -⟩
  conv => whnf
  refine And.intro (fun _ => ?_) (fun q => absurd rfl q)
  conv => whnf
  rw [show nI j + 6 = nI (j + 6) from nI_add j 6]
  exact nx M2 hI2
set_option maxHeartbeats 2000000 in
theorem k_shake {Ω : Om} {M : Mem} {j : Nat} {K : Ka} {c n : Nat} (hN : oN Ω ≤ 3072) (hj : j + 6 ≤ oN Ω) (hI : Inv M) (nx : ∀ M', Inv M' → GoS Ω true m_LAW_law K 18 [some (vR (some (kSCR, 0))), some (vR (some (11, 0))), some (vR (some (12, 0))), some (vI (nI (j + 6)))] [] M' c n) : GoS Ω true m_LAW_law K 1057 [some (vR (some (kSCR, 0))), some (vR (some (11, 0))), some (vR (some (12, 0))), some (vI (nI j))] [] M c n := by
  obtain ⟨P, hP1, hP2⟩ := t_shake Ω M (mI M 141 0 (j + 1)) (mI M 141 0 (j + 2)) hI
  refine go_wp ok_LAW_law [18] 250 _ _ _ _ _ _ ?_
  conv => whnf
  rw [show nI j + 1 = nI (j + 1) from nI_add j 1]
  refine And.intro (vp_in_nI (by omega) (by omega)) ?_
  rw [nI_clamp (by omega)]
  conv => whnf
  rw [show nI j + 2 = nI (j + 2) from nI_add j 2]
  refine And.intro (vp_in_nI (by omega) (by omega)) ?_
  rw [nI_clamp (by omega)]
  conv => whnf
  refine ⟨P, hP1, trivial, ?_⟩
  intro r M1 hr
  obtain ⟨⟨v, rfl⟩, h141, hC⟩ := hP2 r M1 hr
  conv => whnf
  rw [show nI j + 1 = nI (j + 1) from nI_add j 1]
  refine And.intro (vp_in_nI (by omega) (by omega)) ?_
  rw [nI_clamp (by omega), h141]
  conv => whnf
  rw [show nI j + 2 = nI (j + 2) from nI_add j 2]
  refine And.intro (vp_in_nI (by omega) (by omega)) ?_
  rw [nI_clamp (by omega), h141]
  conv => whnf
  refine ⟨_, hC, trivial, ?_⟩
  rintro r2 M2 ⟨rfl, hI2, -⟩
  conv => whnf
  refine And.intro (fun _ => ?_) (fun q => absurd rfl q)
  conv => whnf
  rw [show nI j + 6 = nI (j + 6) from nI_add j 6]
  exact nx M2 hI2
set_option maxHeartbeats 2000000 in
theorem k_best {Ω : Om} {M : Mem} {j : Nat} {K : Ka} {c n : Nat} (hN : oN Ω ≤ 3072) (hj : j + 6 ≤ oN Ω) (hI : Inv M) (nx : ∀ M', Inv M' → GoS Ω true m_LAW_law K 18 [some (vR (some (kSCR, 0))), some (vR (some (11, 0))), some (vR (some (12, 0))), some (vI (nI (j + 6)))] [] M' c n) : GoS Ω true m_LAW_law K 1090 [some (vR (some (kSCR, 0))), some (vR (some (11, 0))), some (vR (some (12, 0))), some (vI (nI j))] [] M c n := by
  obtain ⟨P, hP1, hP2⟩ := t_best Ω M (mI M 141 0 (j + 1)) (mI M 141 0 (j + 2)) (mI M 141 0 (j + 3)) (mI M 141 0 (j + 4)) (mI M 141 0 (j + 5)) hI
  refine go_wp ok_LAW_law [18] 250 _ _ _ _ _ _ ?_
  conv => whnf
  rw [show nI j + 1 = nI (j + 1) from nI_add j 1]
  refine And.intro (vp_in_nI (by omega) (by omega)) ?_
  rw [nI_clamp (by omega)]
  conv => whnf
  rw [show nI j + 2 = nI (j + 2) from nI_add j 2]
  refine And.intro (vp_in_nI (by omega) (by omega)) ?_
  rw [nI_clamp (by omega)]
  conv => whnf
  rw [show nI j + 3 = nI (j + 3) from nI_add j 3]
  refine And.intro (vp_in_nI (by omega) (by omega)) ?_
  rw [nI_clamp (by omega)]
  conv => whnf
  rw [show nI j + 4 = nI (j + 4) from nI_add j 4]
  refine And.intro (vp_in_nI (by omega) (by omega)) ?_
  rw [nI_clamp (by omega)]
  conv => whnf
  rw [show nI j + 5 = nI (j + 5) from nI_add j 5]
  refine And.intro (vp_in_nI (by omega) (by omega)) ?_
  rw [nI_clamp (by omega)]
  conv => whnf
  refine ⟨P, hP1, trivial, ?_⟩
  intro r M1 hr
  obtain ⟨⟨v, rfl⟩, h141, hC⟩ := hP2 r M1 hr
  conv => whnf
  rw [show nI j + 1 = nI (j + 1) from nI_add j 1]
  refine And.intro (vp_in_nI (by omega) (by omega)) ?_
  rw [nI_clamp (by omega), h141]
  conv => whnf
  rw [show nI j + 2 = nI (j + 2) from nI_add j 2]
  refine And.intro (vp_in_nI (by omega) (by omega)) ?_
  rw [nI_clamp (by omega), h141]
  conv => whnf
  rw [show nI j + 3 = nI (j + 3) from nI_add j 3]
  refine And.intro (vp_in_nI (by omega) (by omega)) ?_
  rw [nI_clamp (by omega), h141]
  conv => whnf
  rw [show nI j + 4 = nI (j + 4) from nI_add j 4]
  refine And.intro (vp_in_nI (by omega) (by omega)) ?_
  rw [nI_clamp (by omega), h141]
  conv => whnf
  rw [show nI j + 5 = nI (j + 5) from nI_add j 5]
  refine And.intro (vp_in_nI (by omega) (by omega)) ?_
  rw [nI_clamp (by omega), h141]
  conv => whnf
  refine ⟨_, hC, trivial, ?_⟩
  rintro r2 M2 ⟨rfl, hI2, -⟩
  conv => whnf
  refine And.intro (fun _ => ?_) (fun q => absurd ((lg_cmp_eq v v).mpr rfl) q)
  conv => whnf
  rw [show nI j + 6 = nI (j + 6) from nI_add j 6]
  exact nx M2 hI2
set_option maxHeartbeats 2000000 in
theorem k_twist {Ω : Om} {M : Mem} {j : Nat} {K : Ka} {c n : Nat} (hN : oN Ω ≤ 3072) (hj : j + 6 ≤ oN Ω) (hI : Inv M) (nx : ∀ M', Inv M' → GoS Ω true m_LAW_law K 18 [some (vR (some (kSCR, 0))), some (vR (some (11, 0))), some (vR (some (12, 0))), some (vI (nI (j + 6)))] [] M' c n) : GoS Ω true m_LAW_law K 1154 [some (vR (some (kSCR, 0))), some (vR (some (11, 0))), some (vR (some (12, 0))), some (vI (nI j))] [] M c n := by
  obtain ⟨P, hP1, hP2⟩ := t_twist Ω M (mI M 141 0 (j + 1)) hI
  refine go_wp ok_LAW_law [18] 250 _ _ _ _ _ _ ?_
  conv => whnf
  rw [show nI j + 1 = nI (j + 1) from nI_add j 1]
  refine And.intro (vp_in_nI (by omega) (by omega)) ?_
  rw [nI_clamp (by omega)]
  conv => whnf
  refine ⟨P, hP1, trivial, ?_⟩
  intro r M1 hr
  obtain ⟨⟨v, rfl⟩, h141, hC⟩ := hP2 r M1 hr
  conv => whnf
  rw [show nI j + 1 = nI (j + 1) from nI_add j 1]
  refine And.intro (vp_in_nI (by omega) (by omega)) ?_
  rw [nI_clamp (by omega), h141]
  conv => whnf
  refine ⟨_, hC, trivial, ?_⟩
  rintro r2 M2 ⟨rfl, hI2, -⟩
  conv => whnf
  refine And.intro (fun _ => ?_) (fun q => absurd rfl q)
  conv => whnf
  rw [show nI j + 6 = nI (j + 6) from nI_add j 6]
  exact nx M2 hI2
set_option maxHeartbeats 2000000 in
theorem k_run {Ω : Om} {M : Mem} {j : Nat} {K : Ka} {c n : Nat} (hN : oN Ω ≤ 3072) (hj : j + 6 ≤ oN Ω) (hI : Inv M) (nx : ∀ M', Inv M' → GoS Ω true m_LAW_law K 18 [some (vR (some (kSCR, 0))), some (vR (some (11, 0))), some (vR (some (12, 0))), some (vI (nI (j + 6)))] [] M' c n) : GoS Ω true m_LAW_law K 1177 [some (vR (some (kSCR, 0))), some (vR (some (11, 0))), some (vR (some (12, 0))), some (vI (nI j))] [] M c n := by
  obtain ⟨P, hP1, hP2⟩ := t_run Ω M (mI M 141 0 (j + 1)) (mI M 141 0 (j + 2)) (mI M 141 0 (j + 3)) (mI M 141 0 (j + 4)) (mI M 141 0 (j + 5)) hI
  refine go_wp ok_LAW_law [18] 250 _ _ _ _ _ _ ?_
  conv => whnf
  rw [show nI j + 1 = nI (j + 1) from nI_add j 1]
  refine And.intro (vp_in_nI (by omega) (by omega)) ?_
  rw [nI_clamp (by omega)]
  conv => whnf
  rw [show nI j + 2 = nI (j + 2) from nI_add j 2]
  refine And.intro (vp_in_nI (by omega) (by omega)) ?_
  rw [nI_clamp (by omega)]
  conv => whnf
  rw [show nI j + 3 = nI (j + 3) from nI_add j 3]
  refine And.intro (vp_in_nI (by omega) (by omega)) ?_
  rw [nI_clamp (by omega)]
  conv => whnf
  rw [show nI j + 4 = nI (j + 4) from nI_add j 4]
  refine And.intro (vp_in_nI (by omega) (by omega)) ?_
  rw [nI_clamp (by omega)]
  conv => whnf
  rw [show nI j + 5 = nI (j + 5) from nI_add j 5]
  refine And.intro (vp_in_nI (by omega) (by omega)) ?_
  rw [nI_clamp (by omega)]
  conv => whnf
  refine ⟨P, hP1, trivial, ?_⟩
  intro r M1 hr
  obtain ⟨⟨v, rfl⟩, h141, hC⟩ := hP2 r M1 hr
  conv => whnf
  rw [show nI j + 1 = nI (j + 1) from nI_add j 1]
  refine And.intro (vp_in_nI (by omega) (by omega)) ?_
  rw [nI_clamp (by omega), h141]
  conv => whnf
  rw [show nI j + 2 = nI (j + 2) from nI_add j 2]
  refine And.intro (vp_in_nI (by omega) (by omega)) ?_
  rw [nI_clamp (by omega), h141]
  conv => whnf
  rw [show nI j + 3 = nI (j + 3) from nI_add j 3]
  refine And.intro (vp_in_nI (by omega) (by omega)) ?_
  rw [nI_clamp (by omega), h141]
  conv => whnf
  rw [show nI j + 4 = nI (j + 4) from nI_add j 4]
  refine And.intro (vp_in_nI (by omega) (by omega)) ?_
  rw [nI_clamp (by omega), h141]
  conv => whnf
  rw [show nI j + 5 = nI (j + 5) from nI_add j 5]
  refine And.intro (vp_in_nI (by omega) (by omega)) ?_
  rw [nI_clamp (by omega), h141]
  conv => whnf
  refine ⟨_, hC, trivial, ?_⟩
  rintro r2 M2 ⟨rfl, hI2, -⟩
  conv => whnf
  refine And.intro (fun _ => ?_) (fun q => absurd rfl q)
  conv => whnf
  rw [show nI j + 6 = nI (j + 6) from nI_add j 6]
  exact nx M2 hI2
set_option maxHeartbeats 2000000 in
theorem k_annul {Ω : Om} {M : Mem} {j : Nat} {K : Ka} {c n : Nat} (hN : oN Ω ≤ 3072) (hj : j + 6 ≤ oN Ω) (hI : Inv M) (nx : ∀ M', Inv M' → GoS Ω true m_LAW_law K 18 [some (vR (some (kSCR, 0))), some (vR (some (11, 0))), some (vR (some (12, 0))), some (vI (nI (j + 6)))] [] M' c n) : GoS Ω true m_LAW_law K 1240 [some (vR (some (kSCR, 0))), some (vR (some (11, 0))), some (vR (some (12, 0))), some (vI (nI j))] [] M c n := by
  obtain ⟨P, hP1, hP2⟩ := t_annul Ω M (mI M 141 0 (j + 1)) hI
  refine go_wp ok_LAW_law [18] 250 _ _ _ _ _ _ ?_
  conv => whnf
  rw [show nI j + 1 = nI (j + 1) from nI_add j 1]
  refine And.intro (vp_in_nI (by omega) (by omega)) ?_
  rw [nI_clamp (by omega)]
  conv => whnf
  refine ⟨P, hP1, trivial, ?_⟩
  intro r M1 hr
  obtain ⟨⟨v, rfl⟩, h141, hC⟩ := hP2 r M1 hr
  conv => whnf
  rw [show nI j + 1 = nI (j + 1) from nI_add j 1]
  refine And.intro (vp_in_nI (by omega) (by omega)) ?_
  rw [nI_clamp (by omega), h141]
  conv => whnf
  refine ⟨_, hC, trivial, ?_⟩
  rintro r2 M2 ⟨rfl, hI2, -⟩
  conv => whnf
  refine And.intro (fun _ => ?_) (fun q => absurd rfl q)
  conv => whnf
  rw [show nI j + 6 = nI (j + 6) from nI_add j 6]
  exact nx M2 hI2
set_option maxHeartbeats 2000000 in
theorem k_right {Ω : Om} {M : Mem} {j : Nat} {K : Ka} {c n : Nat} (hN : oN Ω ≤ 3072) (hj : j + 6 ≤ oN Ω) (hI : Inv M) (nx : ∀ M', Inv M' → GoS Ω true m_LAW_law K 18 [some (vR (some (kSCR, 0))), some (vR (some (11, 0))), some (vR (some (12, 0))), some (vI (nI (j + 6)))] [] M' c n) : GoS Ω true m_LAW_law K 1263 [some (vR (some (kSCR, 0))), some (vR (some (11, 0))), some (vR (some (12, 0))), some (vI (nI j))] [] M c n := by
  obtain ⟨P, hP1, hP2⟩ := t_right Ω M (mI M 141 0 (j + 1)) hI
  refine go_wp ok_LAW_law [18] 250 _ _ _ _ _ _ ?_
  conv => whnf
  rw [show nI j + 1 = nI (j + 1) from nI_add j 1]
  refine And.intro (vp_in_nI (by omega) (by omega)) ?_
  rw [nI_clamp (by omega)]
  conv => whnf
  refine ⟨P, hP1, trivial, ?_⟩
  intro r M1 hr
  obtain ⟨⟨v, rfl⟩, h141, hC⟩ := hP2 r M1 hr
  conv => whnf
  rw [show nI j + 1 = nI (j + 1) from nI_add j 1]
  refine And.intro (vp_in_nI (by omega) (by omega)) ?_
  rw [nI_clamp (by omega), h141]
  conv => whnf
  refine ⟨_, hC, trivial, ?_⟩
  rintro r2 M2 ⟨rfl, hI2, -⟩
  conv => whnf
  refine And.intro (fun _ => ?_) (fun q => absurd rfl q)
  conv => whnf
  rw [show nI j + 6 = nI (j + 6) from nI_add j 6]
  exact nx M2 hI2
set_option maxHeartbeats 2000000 in
theorem k_fits {Ω : Om} {M : Mem} {j : Nat} {K : Ka} {c n : Nat} (hN : oN Ω ≤ 3072) (hj : j + 6 ≤ oN Ω) (hI : Inv M) (nx : ∀ M', Inv M' → GoS Ω true m_LAW_law K 18 [some (vR (some (kSCR, 0))), some (vR (some (11, 0))), some (vR (some (12, 0))), some (vI (nI (j + 6)))] [] M' c n) : GoS Ω true m_LAW_law K 1286 [some (vR (some (kSCR, 0))), some (vR (some (11, 0))), some (vR (some (12, 0))), some (vI (nI j))] [] M c n := by
  obtain ⟨P, hP1, hP2⟩ := t_fits Ω M (mI M 141 0 (j + 1)) (mI M 141 0 (j + 2)) hI
  refine go_wp ok_LAW_law [18] 250 _ _ _ _ _ _ ?_
  conv => whnf
  rw [show nI j + 1 = nI (j + 1) from nI_add j 1]
  refine And.intro (vp_in_nI (by omega) (by omega)) ?_
  rw [nI_clamp (by omega)]
  conv => whnf
  rw [show nI j + 2 = nI (j + 2) from nI_add j 2]
  refine And.intro (vp_in_nI (by omega) (by omega)) ?_
  rw [nI_clamp (by omega)]
  conv => whnf
  refine ⟨P, hP1, trivial, ?_⟩
  intro r M1 hr
  obtain ⟨⟨v, rfl⟩, h141, hC⟩ := hP2 r M1 hr
  conv => whnf
  rw [show nI j + 1 = nI (j + 1) from nI_add j 1]
  refine And.intro (vp_in_nI (by omega) (by omega)) ?_
  rw [nI_clamp (by omega), h141]
  conv => whnf
  rw [show nI j + 2 = nI (j + 2) from nI_add j 2]
  refine And.intro (vp_in_nI (by omega) (by omega)) ?_
  rw [nI_clamp (by omega), h141]
  conv => whnf
  refine ⟨_, hC, trivial, ?_⟩
  rintro r2 M2 ⟨rfl, hI2, -⟩
  conv => whnf
  refine And.intro (fun _ => ?_) (fun q => absurd rfl q)
  conv => whnf
  rw [show nI j + 6 = nI (j + 6) from nI_add j 6]
  exact nx M2 hI2
set_option maxHeartbeats 2000000 in
theorem k_out {Ω : Om} {M : Mem} {j : Nat} {K : Ka} {c n : Nat} (hN : oN Ω ≤ 3072) (hj : j + 6 ≤ oN Ω) (hI : Inv M) (nx : ∀ M', Inv M' → GoS Ω true m_LAW_law K 18 [some (vR (some (kSCR, 0))), some (vR (some (11, 0))), some (vR (some (12, 0))), some (vI (nI (j + 6)))] [] M' c n) : GoS Ω true m_LAW_law K 1319 [some (vR (some (kSCR, 0))), some (vR (some (11, 0))), some (vR (some (12, 0))), some (vI (nI j))] [] M c n := by
  obtain ⟨P, hP1, hP2⟩ := t_out Ω M (mI M 141 0 (j + 1)) (mI M 141 0 (j + 2)) hI
  refine go_wp ok_LAW_law [18] 250 _ _ _ _ _ _ ?_
  conv => whnf
  rw [show nI j + 1 = nI (j + 1) from nI_add j 1]
  refine And.intro (vp_in_nI (by omega) (by omega)) ?_
  rw [nI_clamp (by omega)]
  conv => whnf
  rw [show nI j + 2 = nI (j + 2) from nI_add j 2]
  refine And.intro (vp_in_nI (by omega) (by omega)) ?_
  rw [nI_clamp (by omega)]
  conv => whnf
  refine ⟨P, hP1, trivial, ?_⟩
  intro r M1 hr
  obtain ⟨⟨v, rfl⟩, h141, hC⟩ := hP2 r M1 hr
  conv => whnf
  rw [show nI j + 1 = nI (j + 1) from nI_add j 1]
  refine And.intro (vp_in_nI (by omega) (by omega)) ?_
  rw [nI_clamp (by omega), h141]
  conv => whnf
  rw [show nI j + 2 = nI (j + 2) from nI_add j 2]
  refine And.intro (vp_in_nI (by omega) (by omega)) ?_
  rw [nI_clamp (by omega), h141]
  conv => whnf
  refine ⟨_, hC, trivial, ?_⟩
  rintro r2 M2 ⟨rfl, hI2, -⟩
  conv => whnf
  refine And.intro (fun _ => ?_) (fun q => absurd rfl q)
  conv => whnf
  rw [show nI j + 6 = nI (j + 6) from nI_add j 6]
  exact nx M2 hI2
set_option maxHeartbeats 2000000 in
theorem k_next {Ω : Om} {M : Mem} {j : Nat} {K : Ka} {c n : Nat} (hN : oN Ω ≤ 3072) (hj : j + 6 ≤ oN Ω) (hI : Inv M) (nx : ∀ M', Inv M' → GoS Ω true m_LAW_law K 18 [some (vR (some (kSCR, 0))), some (vR (some (11, 0))), some (vR (some (12, 0))), some (vI (nI (j + 6)))] [] M' c n) : GoS Ω true m_LAW_law K 1352 [some (vR (some (kSCR, 0))), some (vR (some (11, 0))), some (vR (some (12, 0))), some (vI (nI j))] [] M c n := by
  obtain ⟨P, hP1, hP2⟩ := t_next Ω M (mI M 141 0 (j + 1)) (mI M 141 0 (j + 2)) hI
  refine go_wp ok_LAW_law [18] 250 _ _ _ _ _ _ ?_
  conv => whnf
  rw [show nI j + 1 = nI (j + 1) from nI_add j 1]
  refine And.intro (vp_in_nI (by omega) (by omega)) ?_
  rw [nI_clamp (by omega)]
  conv => whnf
  rw [show nI j + 2 = nI (j + 2) from nI_add j 2]
  refine And.intro (vp_in_nI (by omega) (by omega)) ?_
  rw [nI_clamp (by omega)]
  conv => whnf
  refine ⟨P, hP1, trivial, ?_⟩
  intro r M1 hr
  obtain ⟨⟨v, rfl⟩, h141, hC⟩ := hP2 r M1 hr
  conv => whnf
  rw [show nI j + 1 = nI (j + 1) from nI_add j 1]
  refine And.intro (vp_in_nI (by omega) (by omega)) ?_
  rw [nI_clamp (by omega), h141]
  conv => whnf
  rw [show nI j + 2 = nI (j + 2) from nI_add j 2]
  refine And.intro (vp_in_nI (by omega) (by omega)) ?_
  rw [nI_clamp (by omega), h141]
  conv => whnf
  refine ⟨_, hC, trivial, ?_⟩
  rintro r2 M2 ⟨rfl, hI2, -⟩
  conv => whnf
  refine And.intro (fun _ => ?_) (fun q => absurd rfl q)
  conv => whnf
  rw [show nI j + 6 = nI (j + 6) from nI_add j 6]
  exact nx M2 hI2
set_option maxHeartbeats 2000000 in
theorem k_count {Ω : Om} {M : Mem} {j : Nat} {K : Ka} {c n : Nat} (hN : oN Ω ≤ 3072) (hj : j + 6 ≤ oN Ω) (hI : Inv M) (nx : ∀ M', Inv M' → GoS Ω true m_LAW_law K 18 [some (vR (some (kSCR, 0))), some (vR (some (11, 0))), some (vR (some (12, 0))), some (vI (nI (j + 6)))] [] M' c n) : GoS Ω true m_LAW_law K 1385 [some (vR (some (kSCR, 0))), some (vR (some (11, 0))), some (vR (some (12, 0))), some (vI (nI j))] [] M c n := by
  obtain ⟨P, hP1, hP2⟩ := t_count Ω M (mI M 141 0 (j + 1)) hI
  refine go_wp ok_LAW_law [18] 250 _ _ _ _ _ _ ?_
  conv => whnf
  rw [show nI j + 1 = nI (j + 1) from nI_add j 1]
  refine And.intro (vp_in_nI (by omega) (by omega)) ?_
  rw [nI_clamp (by omega)]
  conv => whnf
  refine ⟨P, hP1, trivial, ?_⟩
  intro r M1 hr
  obtain ⟨⟨v, rfl⟩, h141, hC⟩ := hP2 r M1 hr
  conv => whnf
  rw [show nI j + 1 = nI (j + 1) from nI_add j 1]
  refine And.intro (vp_in_nI (by omega) (by omega)) ?_
  rw [nI_clamp (by omega), h141]
  conv => whnf
  refine ⟨_, hC, trivial, ?_⟩
  rintro r2 M2 ⟨rfl, hI2, -⟩
  conv => whnf
  refine And.intro (fun _ => ?_) (fun q => absurd rfl q)
  conv => whnf
  rw [show nI j + 6 = nI (j + 6) from nI_add j 6]
  exact nx M2 hI2
theorem k_none {Ω : Om} {M : Mem} {j : Nat} {K : Ka} {c n : Nat} (hI : Inv M) (nx : ∀ M', Inv M' → GoS Ω true m_LAW_law K 18 [some (vR (some (kSCR, 0))), some (vR (some (11, 0))), some (vR (some (12, 0))), some (vI (nI (j + 6)))] [] M' c n) : GoS Ω true m_LAW_law K 1408 [some (vR (some (kSCR, 0))), some (vR (some (11, 0))), some (vR (some (12, 0))), some (vI (nI j))] [] M c n := by
  refine go_wp ok_LAW_law [18] 250 _ _ _ _ _ _ ?_
  conv => whnf
  rw [show nI j + 6 = nI (j + 6) from nI_add j 6]
  exact nx M hI
set_option maxHeartbeats 4000000 in
theorem k_switch {Ω : Om} {M : Mem} {j : Nat} {K : Ka} {c n : Nat} (hN : oN Ω ≤ 3072) (hj : j + 6 ≤ oN Ω) (hI : Inv M) (nx : ∀ M', Inv M' → GoS Ω true m_LAW_law K 18 [some (vR (some (kSCR, 0))), some (vR (some (11, 0))), some (vR (some (12, 0))), some (vI (nI (j + 6)))] [] M' c n) : GoS Ω true m_LAW_law K 27 [some (vR (some (kSCR, 0))), some (vR (some (11, 0))), some (vR (some (12, 0))), some (vI (nI j))] [] M c n := by
  refine go_wp ok_LAW_law [180, 243, 266, 279, 292, 315, 348, 381, 414, 483, 536, 599, 642, 675, 709, 732, 755, 808, 832, 875, 928, 981, 1014, 1057, 1090, 1154, 1177, 1240, 1263, 1286, 1319, 1352, 1385, 1408] 250 _ _ _ _ _ _ ?_
  conv => whnf
  refine And.intro (vp_in_nI (by omega) (by omega)) ?_
  rw [nI_clamp (by omega)]
  exact And.intro (fun _ => k_feed hN hj hI nx) (fun _ => And.intro (fun _ => k_back hN hj hI nx) (fun _ => And.intro (fun _ => k_read hN hj hI nx) (fun _ => And.intro (fun _ => k_place hN hj hI nx) (fun _ => And.intro (fun _ => k_use hN hj hI nx) (fun _ => And.intro (fun _ => k_law hN hj hI nx) (fun _ => And.intro (fun _ => k_hinge hN hj hI nx) (fun _ => And.intro (fun _ => k_gust hN hj hI nx) (fun _ => And.intro (fun _ => k_solve hN hj hI nx) (fun _ => And.intro (fun _ => k_ground hN hj hI nx) (fun _ => And.intro (fun _ => k_follow hN hj hI nx) (fun _ => And.intro (fun _ => k_strip hN hj hI nx) (fun _ => And.intro (fun _ => k_edge hN hj hI nx) (fun _ => And.intro (fun _ => k_force hN hj hI nx) (fun _ => And.intro (fun _ => k_barred hN hj hI nx) (fun _ => And.intro (fun _ => k_where hN hj hI nx) (fun _ => And.intro (fun _ => k_curve hN hj hI nx) (fun _ => And.intro (fun _ => k_lift hN hj hI nx) (fun _ => And.intro (fun _ => k_trims hN hj hI nx) (fun _ => And.intro (fun _ => k_trim hN hj hI nx) (fun _ => And.intro (fun _ => k_stays hN hj hI nx) (fun _ => And.intro (fun _ => k_fold hN hj hI nx) (fun _ => And.intro (fun _ => k_shakes hN hj hI nx) (fun _ => And.intro (fun _ => k_shake hN hj hI nx) (fun _ => And.intro (fun _ => k_best hN hj hI nx) (fun _ => And.intro (fun _ => k_twist hN hj hI nx) (fun _ => And.intro (fun _ => k_run hN hj hI nx) (fun _ => And.intro (fun _ => k_annul hN hj hI nx) (fun _ => And.intro (fun _ => k_right hN hj hI nx) (fun _ => And.intro (fun _ => k_fits hN hj hI nx) (fun _ => And.intro (fun _ => k_out hN hj hI nx) (fun _ => And.intro (fun _ => k_next hN hj hI nx) (fun _ => And.intro (fun _ => k_count hN hj hI nx) (fun _ => k_none hI nx)))))))))))))))))))))))))))))))))
