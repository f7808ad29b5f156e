/-! THE MODEL'S ROUND, II: its law, the round, the rounds -/
theorem c_lawAt (Ω : Om) (M : Mem) (p i k : Nat) (E : Ev) (x : Int64) (K : Ka) (hE : ME M p E) (hi : i < 10) (hk : k < 8) (ek : eT E 93 (10 * eW E + i) = nI k) (hL : LwOK (eT E) k) (h : K (some (vJ (lwT (eT E) k x))) M) : CallS Ω true m_MD_lawAt [vR (some (12, 0)), vI (nI i), vJ x] M K := by
  obtain ⟨⟨hp, hw4, hT⟩, a1, -⟩ := hE
  obtain ⟨e77, hLO⟩ := hL.n
  refine call_go (hJL rfl) (Nat.le_of_ble_eq_true rfl) (go_wp ok_MD_lawAt [] 250 _ _ _ _ _ _ ?_)
  refine And.intro (show ¬ (4 : Int32) = 0 by decide) ?_
  conv => whnf
  rw [a1, show (4 : Int32) = nI 4 from rfl, pk_div (by omega) (by omega) (by omega), show (8 : Int32) = nI 8 from rfl, pk_mul, show (10 : Int32) = nI 10 from rfl, pk_mul, nI_add]
  refine And.intro (vp_in_nI (by omega) (by decide)) ?_
  rw [nI_clamp (by omega), show mI M 93 0 (10 * (4 * p + eW E) + i) = eT E 93 (10 * eW E + i) from by rw [hT]; exact pgI rfl (by show _ = 40 * p + _; omega), ek]
  conv => whnf
  rw [nI_add, show 8 * ((4 * p + eW E) / 4) + k = 8 * p + k by omega]
  refine cl_use (fun K h => c_valueOf Ω M (8 * p + k) _ _ _ x K hLO (by omega) ?_ (fun j hj => ?_) (fun j hj => ?_) h) trivial ?_
  · rw [← e77, hT]; exact pgI rfl rfl
  · show _ = eT E 78 (8 * k + j)
    rw [hT]; exact pgI rfl (by show _ = 64 * p + _; omega)
  · show _ = eT E 79 (8 * k + j)
    rw [hT]; exact pgI rfl (by show _ = 64 * p + _; omega)
  exact h
/-- the flow of the model -/
def MF (M : Mem) (n : Nat) (g d b a : Nat → Int64) : Prop := ∀ i, i < n → mJ M 113 0 i = g i ∧ mJ M 115 0 i = d i ∧ mJ M 116 0 i = b i ∧ mJ M 117 0 i = a i
theorem mr_fin {Ω : Om} {M : Mem} {p : Nat} {E : Ev} {g : Nat → Int64} {K : Ka} (hE : ME M p E) (hO : EvOK E) (hK : ∀ M', Un wRm M M' → MF M' (eN E) (nxS E g) (dnS E g) (bnS E g) (anS E g) → K (some (vI (bI (chS E g (eN E))))) M') : ∀ M1 : Mem, Un wRm M M1 → (∀ i, i < eN E → mJ M1 113 0 i = g i ∧ mJ M1 114 0 i = nxS E g i ∧ mJ M1 115 0 i = dnS E g i ∧ mJ M1 116 0 i = bnS E g i ∧ mJ M1 117 0 i = anS E g i) → GoS Ω true m_MD_round K 205 [some (vR (some (12, 0))), some (vI (bI (chS E g 0))), some (vI (nI 0))] [] M1 0 0 := by
  obtain ⟨hWg, hh, hh21, hH⟩ := id hO
  obtain ⟨hn1, hn2, hn3, hst⟩ := hWg.n
  have hn3 : eN E ≤ 10 := hn3
  obtain ⟨⟨hp, hw4, hT⟩, -⟩ := id hE
  intro M1 hU1 hF1
  refine loopN (eN E) (fun i M2 => Un wRm M M2 ∧ (∀ i', i' < eN E → mJ M2 114 0 i' = nxS E g i' ∧ mJ M2 115 0 i' = dnS E g i' ∧ mJ M2 116 0 i' = bnS E g i' ∧ mJ M2 117 0 i' = anS E g i') ∧ (∀ i', i' < i → mJ M2 113 0 i' = nxS E g i') ∧ ∀ i', i ≤ i' → i' < eN E → mJ M2 113 0 i' = g i')
    (fun i M2 => GoS Ω true m_MD_round K 205 [some (vR (some (12, 0))), some (vI (bI (chS E g i))), some (vI (nI i))] [] M2 0 0) ?_ ?_ 0 M1 (Nat.zero_le _) ⟨hU1, fun i h => (hF1 i h).2, fun i' h => absurd h (Nat.not_lt_zero _), fun i' _ h => (hF1 i' h).1⟩
  · rintro i M2 hi ⟨hU, hB, hA, hR⟩ hN
    obtain ⟨-, b1, b2, -⟩ := hE.un hU
    refine go_wp ok_MD_round [205] 250 _ _ _ _ _ _ ?_
    refine And.intro (fun a => ?_) (fun _ => ?_)
    · rw [b2, nI_leI (by omega) (by omega)] at a; omega
    have hgo : ∀ c : Bool, c = chS E g (i + 1) → GoS Ω true m_MD_round K 205 [some (vR (some (12, 0))), some (vI (bI c)), some (vI (nI i + 1))] [] (sJ M2 113 0 i (nxS E g i)) 0 0 := by
      rintro c rfl
      have := hN (sJ M2 113 0 i (nxS E g i)) ⟨hU.pJ rfl, fun i' hi' => hB i' hi', fun i' hi' => ?_, fun i' h1 h2 => ?_⟩
      · rw [← nI_1] at this
        exact this
      · rw [mJ_sJ]
        by_cases e : i' = i
        · rw [if_pos ⟨rfl, rfl, e⟩, e]
        · rw [if_neg (fun q => e q.2.2)]; exact hA i' (by omega)
      · rw [mJ_sJ, if_neg (fun q => by omega)]
        exact hR i' (by omega) h2
    conv => whnf
    refine br_bn (fun c => ?_) (fun c => ?_)
    · conv => whnf
      refine And.intro (vp_in_nI (by omega) (by decide)) ?_
      conv => whnf
      refine And.intro (vp_in_nI (by omega) (by decide)) ?_
      rw [nI_clamp (by omega), (hB i hi).1]
      exact hgo true (by rw [chS, c]; rfl)
    · conv => whnf
      refine And.intro (vp_in_nI (by omega) (by decide)) ?_
      conv => whnf
      refine And.intro (vp_in_nI (by omega) (by decide)) ?_
      rw [nI_clamp (by omega), (hB i hi).1, hR i (Nat.le_refl _) hi]
      refine And.intro (fun z => ?_) (fun z => ?_)
      · conv => whnf
        have z := (lg_cmp_eq _ _).mp z
        refine And.intro (vp_in_nI (by omega) (by decide)) ?_
        conv => whnf
        refine And.intro (vp_in_nI (by omega) (by decide)) ?_
        rw [nI_clamp (by omega), (hB i hi).1]
        exact hgo false (by rw [chS, c, decide_eq_true z]; rfl)
      · conv => whnf
        have z : ¬ _ := fun q => z ((lg_cmp_eq _ _).mpr q)
        refine And.intro (vp_in_nI (by omega) (by decide)) ?_
        conv => whnf
        refine And.intro (vp_in_nI (by omega) (by decide)) ?_
        rw [nI_clamp (by omega), (hB i hi).1]
        exact hgo true (by rw [chS, c, decide_eq_false z]; rfl)
  · rintro M2 ⟨hU, hB, hA, -⟩
    obtain ⟨-, b1, b2, -⟩ := hE.un hU
    refine go_wp ok_MD_round [] 250 _ _ _ _ _ _ ?_
    refine And.intro (fun _ => ?_) (fun a => ?_)
    · conv => whnf
      exact ⟨bI_01 _, hK M2 hU (fun i hi => ⟨hA i hi, (hB i hi).2.1, (hB i hi).2.2.1, (hB i hi).2.2.2⟩)⟩
    · rw [b2, nI_leI (by omega) (by omega)] at a; omega
theorem mr_rest {Ω : Om} {M : Mem} {p : Nat} {E : Ev} {g : Nat → Int64} {K : Ka} (hE : ME M p E) (hO : EvOK E) {i : Nat} {M4 : Mem} (hi : i < eN E) (hU4 : Un wRm M M4) (hG4 : ∀ i', i' < eN E → mJ M4 113 0 i' = g i') (h115 : mJ M4 115 0 i = dnS E g i) (h116 : mJ M4 116 0 i = bnS E g i)
    (hlow : ∀ i', i' < i → mJ M4 114 0 i' = nxS E g i' ∧ mJ M4 115 0 i' = dnS E g i' ∧ mJ M4 116 0 i' = bnS E g i' ∧ mJ M4 117 0 i' = anS E g i') (q2 : Option Vl)
    (hN : ∀ M' : Mem, (Un wRm M M' ∧ (∀ i', i' < eN E → mJ M' 113 0 i' = g i') ∧ ∀ i', i' < i + 1 → mJ M' 114 0 i' = nxS E g i' ∧ mJ M' 115 0 i' = dnS E g i' ∧ mJ M' 116 0 i' = bnS E g i' ∧ mJ M' 117 0 i' = anS E g i') → ∀ r2 : Option Vl, GoS Ω true m_MD_round K 2 [some (vR (some (12, 0))), some (vI (nI (i + 1))), r2] [] M' 0 0) :
    GoS Ω true m_MD_round K 113 [some (vR (some (12, 0))), some (vI (nI i)), q2] [vI (eB E i), vI (nI i), vR (some (117, 0))] M4 0 0 := by
  obtain ⟨hWg, hh, hh21, hH⟩ := id hO
  obtain ⟨hn1, hn2, hn3, hst⟩ := hWg.n
  have hn3 : eN E ≤ 10 := hn3
  obtain ⟨⟨hp, hw4, hT⟩, -⟩ := id hE
  have hE4 := hE.un hU4
  obtain ⟨-, d1, d2, d3, d4, d5, d6⟩ := id hE4
  obtain ⟨-, ⟨k, hk, ek, hL⟩, -, -, hhin⟩ := hst i hi
  refine go_wp ok_MD_round [2] 250 _ _ _ _ _ _ ?_
  conv => whnf
  refine And.intro (vp_in_nI (by omega) (by decide)) ?_
  conv => whnf
  rw [d1]
  refine And.intro (vp_in_nI (by omega) (by decide)) ?_
  conv => whnf
  refine And.intro (vp_in_nI (by omega) (by decide)) ?_
  refine And.intro (show ¬ (10 : Int64) = 0 by decide) ?_
  conv => whnf
  refine And.intro (vp_in_nI (by omega) (by decide)) ?_
  rw [nI_clamp (by omega), nI_clamp (by omega), h115, h116, show mI M4 89 0 (4 * p + eW E) = eT E 89 (eW E) from by rw [hE4.1.2.2]; rfl]
  conv => whnf
  refine And.intro (vp_in_nI (by omega) (by decide)) ?_
  rw [nI_clamp (by omega)]
  have hU5 : Un wRm M (sJ M4 117 0 i (anS E g i)) := hU4.pJ rfl
  conv => whnf
  rw [show mI (sJ M4 117 0 i _) 12 0 71 = nI (4 * p + eW E) from d1, show (10 : Int32) = nI 10 from rfl, pk_mul, nI_add]
  refine And.intro (vp_in_nI (by omega) (by decide)) ?_
  conv => whnf
  refine And.intro (vp_in_nI (by omega) (by decide)) ?_
  rw [nI_clamp (by omega), nI_clamp (by omega), show mI (sJ M4 117 0 i _) 92 0 (10 * (4 * p + eW E) + i) = eT E 92 (10 * eW E + i) from by rw [hE4.1.2.2]; exact pgI (M := M4) rfl (by show _ = 40 * p + _; omega), mJ_sJ, mJ_sJ, if_pos ⟨rfl, rfl, rfl⟩]
  refine cl_use (fun K h => c_lawAt Ω _ p i k E (anS E g i) K (hE.un hU5) (by omega) hk ek hL h) trivial ?_
  conv => whnf
  refine And.intro (vp_in_nI (by omega) (by decide)) ?_
  refine And.intro (show ¬ (2 : Int64) = 0 by decide) ?_
  conv => whnf
  refine And.intro (vp_in_nI (by omega) (by decide)) ?_
  rw [nI_clamp (by omega), mJ_sJ, if_neg (fun q => absurd q.1 (by decide)), hG4 i hi]
  have := hN (sJ (sJ M4 117 0 i (anS E g i)) 114 0 i (nxS E g i)) ⟨hU5.pJ rfl, fun i' hi' => ?_, fun i' hi' => ?_⟩ q2
  · rw [← nI_1, nxS, amS, ek, nI_clamp (by omega)] at this
    exact this
  · exact hG4 i' hi'
  · rw [mJ_sJ, mJ_sJ, mJ_sJ, mJ_sJ, mJ_sJ, mJ_sJ, mJ_sJ, mJ_sJ]
    by_cases e : i' = i
    · subst e
      rw [if_pos ⟨rfl, rfl, rfl⟩, if_neg (fun q => absurd q.1 (by decide)), if_neg (fun q => absurd q.1 (by decide)), if_neg (fun q => absurd q.1 (by decide)), if_neg (fun q => absurd q.1 (by decide)), if_neg (fun q => absurd q.1 (by decide)), if_pos ⟨rfl, rfl, rfl⟩]
      exact ⟨rfl, h115, h116, rfl⟩
    · rw [if_neg (fun q => e q.2.2), if_neg (fun q => e q.2.2), if_neg (fun q => e q.2.2), if_neg (fun q => e q.2.2), if_neg (fun q => e q.2.2), if_neg (fun q => e q.2.2), if_neg (fun q => e q.2.2), if_neg (fun q => e q.2.2)]
      exact hlow i' (by omega)
theorem c_MD_round (Ω : Om) (M : Mem) (p : Nat) (E : Ev) (g : Nat → Int64) (K : Ka) (hE : ME M p E) (hO : EvOK E) (hG : ∀ i, i < eN E → mJ M 113 0 i = g i)
    (hK : ∀ M', Un wRm M M' → MF M' (eN E) (nxS E g) (dnS E g) (bnS E g) (anS E g) → K (some (vI (bI (chS E g (eN E))))) M') : CallS Ω true m_MD_round [vR (some (12, 0))] M K := by
  obtain ⟨hWg, hh, hh21, hH⟩ := id hO
  obtain ⟨hn1, hn2, hn3, hst⟩ := hWg.n
  have hn3 : eN E ≤ 10 := hn3
  obtain ⟨⟨hp, hw4, hT⟩, -⟩ := id hE
  refine call_go (hJL rfl) (Nat.le_of_ble_eq_true rfl) (go_wp ok_MD_round [2] 250 _ _ _ _ _ _ ?_)
  conv => whnf
  refine loopN (eN E) (fun i M2 => Un wRm M M2 ∧ (∀ i', i' < eN E → mJ M2 113 0 i' = g i') ∧ ∀ i', i' < i → mJ M2 114 0 i' = nxS E g i' ∧ mJ M2 115 0 i' = dnS E g i' ∧ mJ M2 116 0 i' = bnS E g i' ∧ mJ M2 117 0 i' = anS E g i')
    (fun i M2 => ∀ r2 : Option Vl, GoS Ω true m_MD_round K 2 [some (vR (some (12, 0))), some (vI (nI i)), r2] [] M2 0 0) ?_ ?_ 0 M (Nat.zero_le _) ⟨Un.rfl, hG, fun i' h => absurd h (Nat.not_lt_zero _)⟩ none
  · rintro i M2 hi ⟨hU, hG2, hA⟩ hN r2
    have hE2 := hE.un hU
    obtain ⟨-, b1, b2, b3, b4, b5, b6⟩ := id hE2
    refine go_wp ok_MD_round [95] 250 _ _ _ _ _ _ ?_
    refine And.intro (fun a => ?_) (fun _ => ?_)
    · rw [b2, nI_leI (by omega) (by omega)] at a; omega
    conv => whnf
    rw [b1, show (10 : Int32) = nI 10 from rfl, pk_mul, nI_add]
    refine And.intro (vp_in_nI (by omega) (by decide)) ?_
    rw [nI_clamp (by omega), show mI M2 96 0 (10 * (4 * p + eW E) + i) = eT E 96 (10 * eW E + i) from by rw [hE2.1.2.2]; exact pgI rfl (by show _ = 40 * p + _; omega)]
    refine cl_use (fun K h => c_downOf Ω M2 p i E g K hE2 hO hi hG2 h) trivial ?_
    conv => whnf
    refine And.intro (vp_in_nI (by omega) (by decide)) ?_
    rw [nI_clamp (by omega)]
    have hU3 : Un wRm M (sJ M2 115 0 i (dnS E g i)) := hU.pJ rfl
    refine cl_use (fun K h => c_bendOf Ω (sJ M2 115 0 i (dnS E g i)) p i E g K (hE.un hU3) hO hi (fun i' hi' => hG2 i' hi') h) trivial ?_
    conv => whnf
    refine And.intro (vp_in_nI (by omega) (by decide)) ?_
    rw [nI_clamp (by omega)]
    have hU4 : Un wRm M (sJ (sJ M2 115 0 i (dnS E g i)) 116 0 i (bnS E g i)) := hU3.pJ rfl
    have hE4 := hE.un hU4
    generalize hM4 : sJ (sJ M2 115 0 i (dnS E g i)) 116 0 i (bnS E g i) = M4 at hU4 hE4
    have h115 : mJ M4 115 0 i = dnS E g i := by
      rw [← hM4, mJ_sJ, mJ_sJ, if_neg (fun q => absurd q.1 (by decide)), if_pos ⟨rfl, rfl, rfl⟩]
    have h116 : mJ M4 116 0 i = bnS E g i := by
      rw [← hM4, mJ_sJ, if_pos ⟨rfl, rfl, rfl⟩]
    have h113 : ∀ i', mJ M4 113 0 i' = mJ M2 113 0 i' := fun i' => by rw [← hM4]; rfl
    have hlow : ∀ i', i' < i → mJ M4 114 0 i' = nxS E g i' ∧ mJ M4 115 0 i' = dnS E g i' ∧ mJ M4 116 0 i' = bnS E g i' ∧ mJ M4 117 0 i' = anS E g i' := by
      intro i' hi'
      obtain ⟨q1, q2, q3, q4⟩ := hA i' hi'
      rw [← hM4]
      refine ⟨q1, ?_, ?_, q4⟩
      · rw [mJ_sJ, mJ_sJ, if_neg (fun q => absurd q.1 (by decide)), if_neg (fun q => by omega)]; exact q2
      · rw [mJ_sJ, if_neg (fun q => by omega)]; exact q3
    clear hM4
    obtain ⟨-, d1, d2, d3, d4, d5, d6⟩ := id hE4
    obtain ⟨-, ⟨k, hk, ek, hL⟩, -, -, hhin⟩ := hst i hi
    -- what stands behind the angle's sum
    have rest := mr_rest hE hO hi hU4 (fun i' hi' => (h113 i').trans (hG2 i' hi')) h115 h116 hlow (some (vI (eT E 96 (10 * eW E + i)))) hN
    have eb := d5 i hi
    have gust : ∀ x : Int32, x + (if mI M4 12 0 79 = 0 then 0 else mI M4 112 0 i) = eB E i → GoS Ω true m_MD_round K 95 [some (vR (some (12, 0))), some (vI (nI i)), some (vI (eT E 96 (10 * eW E + i)))] [vI x, vI (nI i), vR (some (117, 0))] M4 0 0 := by
      intro x hx
      refine go_wp ok_MD_round [113] 250 _ _ _ _ _ _ ?_
      refine And.intro (fun z => ?_) (fun z => ?_)
      · conv => whnf
        rw [if_pos z] at hx
        rw [hx]
        exact rest
      · conv => whnf
        refine And.intro (vp_in_nI (by omega) (by decide)) ?_
        rw [nI_clamp (by omega)]
        conv => whnf
        rw [if_neg z] at hx
        rw [hx]
        exact rest
    conv => whnf
    refine And.intro (vp_in_nI (by omega) (by decide)) ?_
    rw [nI_clamp (by omega)]
    refine And.intro (fun z => ?_) (fun z => ?_)
    · conv => whnf
      exact gust _ (by rw [eb, if_pos z])
    · conv => whnf
      rw [if_neg z] at eb
      refine And.intro (fun z2 => ?_) (fun z2 => ?_)
      · conv => whnf
        exact gust _ (by rw [eb, if_pos z2])
      · rw [if_neg z2] at eb
        rcases hhin with hhin | ⟨h, hh4, eh⟩
        · exact absurd hhin z
        refine And.intro (show ¬ (4 : Int32) = 0 by decide) ?_
        conv => whnf
        rw [d1, show (4 : Int32) = nI 4 from rfl, pk_div (by omega) (by omega) (by omega), pk_mul, eh, nI_add, show 4 * ((4 * p + eW E) / 4) + h = 4 * p + h by omega]
        refine And.intro (vp_in_nI (by omega) (by decide)) ?_
        rw [nI_clamp (by omega), show mI M4 83 0 (4 * p + h) = pg M4 p 83 h from rfl]
        conv => whnf
        rw [eh, nI_clamp (by omega)] at eb
        have := gust _ eb.symm
        rw [eh] at this
        exact this
  · rintro M2 ⟨hU, hG2, hA⟩ r2
    obtain ⟨-, b1, b2, -⟩ := hE.un hU
    refine go_wp ok_MD_round [205] 250 _ _ _ _ _ _ ?_
    refine And.intro (fun _ => ?_) (fun a => ?_)
    · conv => whnf
      exact mr_fin hE hO hK M2 hU (fun i hi => ⟨hG2 i hi, hA i hi⟩)
    · rw [b2, nI_leI (by omega) (by omega)] at a; omega
theorem c_MD_rounds (Ω : Om) (M : Mem) (p : Nat) (E : Ev) (g : Nat → Int64) (K : Ka) (hE : ME M p E) (hO : EvOK E) (hG : ∀ i, i < eN E → mJ M 113 0 i = g i)
    (hK : ∀ M', Un wRm M M' → (¬ (rnS E 120 1 g).1 = -2 → MF M' (eN E) (rnS E 120 1 g).2 (dnS E (rnS E 120 1 g).2) (bnS E (rnS E 120 1 g).2) (anS E (rnS E 120 1 g).2)) → K (some (vI (rnS E 120 1 g).1)) M') : CallS Ω true m_MD_rounds [vR (some (12, 0))] M K := by
  have lp : ∀ (f k : Nat) (g1 : Nat → Int64) (M1 : Mem), k + f = 121 → Un wRm M M1 → (∀ i, i < eN E → mJ M1 113 0 i = g1 i) → rnS E f k g1 = rnS E 120 1 g → GoS Ω true m_MD_rounds K 2 [some (vR (some (12, 0))), some (vI (nI k))] [] M1 0 0 := by
    intro f
    induction f with
    | zero =>
      intro k g1 M1 hk hU hG1 he
      refine go_wp ok_MD_rounds [] 250 _ _ _ _ _ _ ?_
      refine And.intro (fun _ => ?_) (fun a => absurd (show (120 : Int32) < nI k from nI_lt (a := 120) (by omega) (by omega)) a)
      conv => whnf
      have e1 : (rnS E 120 1 g).1 = -2 := by rw [← he]; rfl
      have := hK M1 hU (fun q => absurd e1 q)
      rw [e1] at this
      exact this
    | succ f ih =>
      intro k g1 M1 hk hU hG1 he
      refine go_wp ok_MD_rounds [2] 250 _ _ _ _ _ _ ?_
      refine And.intro (fun a => absurd a (nI_nlt (a := 120) (by omega) (by decide))) (fun _ => ?_)
      conv => whnf
      refine ⟨fun v M' => v = some (vI (bI (chS E g1 (eN E)))) ∧ Un wRm M1 M' ∧ MF M' (eN E) (nxS E g1) (dnS E g1) (bnS E g1) (anS E g1), c_MD_round Ω M1 p E g1 _ (hE.un hU) hO hG1 (fun M' a b => ⟨rfl, a, b⟩), trivial, ?_⟩
      rintro v M2 ⟨rfl, hU2, hF⟩
      conv => whnf
      refine br_bn (fun c => ?_) (fun c => ?_)
      · conv => whnf
        have := ih (k + 1) (nxS E g1) M2 (by omega) (hU.trans hU2) (fun i hi => (hF i hi).1) (by rw [← he, rnS, if_pos c])
        rw [← nI_1] at this
        exact this
      · conv => whnf
        have e : rnS E 120 1 g = (nI k, g1) := by rw [← he, rnS, if_neg (by rw [c]; decide)]
        have := hK M2 (hU.trans hU2) (fun _ i hi => by
          rw [e]
          obtain ⟨q1, q2, q3, q4⟩ := hF i hi
          exact ⟨q1.trans (ch_f c i hi), q2, q3, q4⟩)
        rw [e] at this
        exact this
  refine call_go (hJL rfl) (Nat.le_of_ble_eq_true rfl) (go_wp ok_MD_rounds [2] 250 _ _ _ _ _ _ ?_)
  exact lp 120 1 g M rfl Un.rfl hG rfl
