/-! TURNS: best, II -/
theorem nI_shl {n : Nat} {x : Int32} (hn : n ≤ 10) (h : (1 : Int32) <<< (nI n &&& 31) ≤ x) : nI (2 ^ n) ≤ x := by
  rw [← sh_n hn]; exact h
set_option maxHeartbeats 2000000 in
set_option maxRecDepth 8000 in
theorem t_best (Ω : Om) (M : Mem) (x v s st le : Int32) (h : Inv M) : Turn Ω tyJ m_WH_best m_MD_best [vI x, vI v, vI s, vI st, vI le] M := by
  obtain ⟨nt, o, a1, a2, a3, a4, a5, a6, a7, a8, a9, a10⟩ := id h
  have hnt := a1.1
  by_cases hc : ∃ t w k, RwY M o x t w ∧ inR 1 40 v = true ∧ inR (-30) 30 s = true ∧ st = nI k ∧ k < 2 ^ wN (pg M t) w ∧ btC k 10 ≤ 4
  · obtain ⟨t, w, k, hY, q1, q2, rfl, hk, h10⟩ := hc
    have hw4 := hY.w4
    have ht : t < nt := a1.2.2.2 t hY.1
    have hnR : ¬ RwN M o x := fun q => no_both (M1 := M) q w hY
    obtain ⟨hW, hC, hL, h44, -⟩ := hY.ok
    obtain ⟨hn1, hn2, hn3, hst⟩ := hW.n
    have hk10 := k_1024 hk hn3
    have e10 : btC k 10 = btC k (wN (pg M t) w) := by
      rw [show btC k 10 = btC k (wN (pg M t) w + (10 - wN (pg M t) w)) by rw [show wN (pg M t) w + (10 - wN (pg M t) w) = 10 by omega], btC_out hk]
    rw [e10] at h10
    have hbits : bc (nI k) = nI (btC k (wN (pg M t) w)) := by rw [bc_mb hk10, mb_c hk10 10 (by omega), e10]
    obtain ⟨-, nl, nh, nw, nb, Ls, hX, -⟩ := id hY
    have hnb : nb ≤ 8 := hX.1.2.2.2.2.1.2.2.2
    have hha : ∀ h, h < 4 → -30 ≤ (pg M t 83 h).toInt ∧ (pg M t 83 h).toInt ≤ 30 := hX.1.2.2.2.2.2.2.2.1
    have hsi : -30 ≤ s.toInt ∧ s.toInt ≤ 30 := by
      obtain ⟨z1, z2⟩ := inR_t.mp q2
      exact ⟨Int32.le_iff_toInt_le.mp z1, Int32.le_iff_toInt_le.mp z2⟩
    refine ⟨fun r M' => r = some (vJ (bsA (bsW (pg M t) w v s (pg M t 83) Ls nb le k (bsN (pg M t) w k)))) ∧ Un (wSr t) M M' ∧ ∀ i, i < 10 → mI M' 22 0 i = bvS k (bsW (pg M t) w v s (pg M t 83) Ls nb le k (bsN (pg M t) w k)) i, ?_, ?_⟩
    · refine pr_best a1 x v s (nI k) le (fun t' w' hY' => ?_) (fun q => absurd q hnR) (Or.inr ⟨t, w, hY⟩)
      obtain ⟨rfl, rfl⟩ := rw_uq hY hY'
      refine go_wp ok_WH_best [] 250 _ _ _ _ _ _ ?_
      conv => whnf
      refine cl_use (fun K h => c_WH_isSpeed Ω _ v K h) trivial ?_
      rw [q1]
      refine And.intro (fun a => absurd a (by decide)) (fun _ => ?_)
      conv => whnf
      refine cl_use (fun K h => c_WH_isSlant Ω _ s K h) trivial ?_
      rw [q2]
      refine And.intro (fun _ => ?_) (fun a => absurd a (by decide))
      refine And.intro (fun a => absurd a (nI_pos (n := k) (by omega))) (fun _ => ?_)
      conv => whnf
      rw [hC.1.trans hn1]
      refine And.intro (fun a => ?_) (fun _ => ?_)
      · have a := nI_shl hn3 a
        have h2 : 2 ^ wN (pg M t') w' ≤ 1024 := Nat.pow_le_pow_right (n := 2) (by decide) hn3
        rw [nI_leI (by omega) (by omega)] at a
        omega
      conv => whnf
      refine cl_use (fun K h => c_bitCount Ω M (nI k) K h) trivial ?_
      rw [hbits]
      refine And.intro (fun _ => ?_) (fun a => absurd (show nI (btC k (wN (pg M t') w')) ≤ 4 from nI_le (b := 4) h10 (by decide)) a)
      conv => whnf
      refine ⟨fun r M' => r = some (vJ (bsA (bsW (pg M t') w' v s (pg M t' 83) Ls nb le k (bsN (pg M t') w' k)))) ∧ Un (wSr t') M M' ∧ ∀ i, i < 10 → mI M' 22 0 i = bvS k (bsW (pg M t') w' v s (pg M t' 83) Ls nb le k (bsN (pg M t') w' k)) i, c_search Ω M t' w' k nb (pg M t') v s le (pg M t' 83) Ls _ hW hC hL a10 hsi h44 hha hk h10 hnb hX.2.1.2.2.2.1 (fun q hq => ⟨(hX.2.2 q hq).1, (hX.2.2 q hq).2.1⟩) (fun M' b1 b2 => ⟨rfl, b1, b2⟩), trivial, ?_⟩
      rintro r M1 ⟨rfl, b1, b2⟩
      exact ⟨rfl, b1, b2⟩
    · rintro r M1 ⟨rfl, b1, b2⟩
      have hZ := b1.mono (sz_Sr t)
      have ep := pg_av hZ wZ_tx t
      refine ⟨⟨_, rfl⟩, wZ_141 hZ, ?_⟩
      refine c_MD_best Ω M1 nt o x v s le t w k nl nh nw nb Ls _ (a2.un hZ rfl rfl) ht (hY.un hZ wZ_tx) (hX.un hZ wZ_tx) q1 q2 (by rw [ep]; exact hk) (by rw [ep]; exact h10) (fun M' c1 c2 => ?_)
      rw [ep] at c2 ⊢
      have hZ2 := c1.mono sz_Mb
      refine ⟨rfl, h.bst (hZ.trans hZ2) (fun i hi => ?_), wZ_141 hZ2⟩
      rw [c2 i hi, ← b2 i hi]
      exact c1.I rfl
  · refine turn_pure h (some (vJ (-1000000000000))) ⟨_, rfl⟩ (fun K hK => ?_) (fun K hK => ?_)
    · refine pr_best a1 x v s st le (fun t w hY => ?_) (fun _ => hK) (rw_res a1 a6 x)
      obtain ⟨hW, hC, -⟩ := hY.ok
      obtain ⟨hn1, hn2, hn3, hst⟩ := hW.n
      refine go_wp ok_WH_best [] 250 _ _ _ _ _ _ ?_
      conv => whnf
      refine cl_use (fun K h => c_WH_isSpeed Ω _ v K h) trivial ?_
      refine br_bz (fun _ => hK) (fun q1 => ?_)
      conv => whnf
      refine cl_use (fun K h => c_WH_isSlant Ω _ s K h) trivial ?_
      refine br_bn (fun q2 => ?_) (fun _ => hK)
      refine And.intro (fun _ => hK) (fun z1 => ?_)
      obtain ⟨k, hk31, rfl⟩ := nI_of z1
      conv => whnf
      rw [hC.1.trans hn1]
      refine And.intro (fun _ => hK) (fun z2 => ?_)
      have hk : k < 2 ^ wN (pg M t) w := by
        refine Nat.lt_of_not_le (fun q => z2 ?_)
        rw [show (1 : Int32) <<< (nI (wN (pg M t) w) &&& 31) = nI (2 ^ wN (pg M t) w) from sh_n hn3]
        exact nI_le q hk31
      have hk10 := k_1024 hk hn3
      conv => whnf
      refine cl_use (fun K h => c_bitCount Ω M (nI k) K h) trivial ?_
      rw [bc_mb hk10, mb_c hk10 10 (by omega)]
      refine And.intro (fun z3 => ?_) (fun _ => hK)
      have hl := btC_le k 10
      have z3 : nI (btC k 10) ≤ nI 4 := z3
      rw [nI_leI (by omega) (by decide)] at z3
      exact absurd ⟨t, w, k, hY, q1, q2, rfl, hk, z3⟩ hc
    · refine call_go (hJL rfl) (Nat.le_of_ble_eq_true rfl) (go_wp ok_MD_best [59] 250 _ _ _ _ _ _ ?_)
      conv => whnf
      rcases rw_res a1 a6 x with hN | ⟨t, w, hY⟩
      · refine cl_use (fun K h => c_MD_rowN' Ω M nt o x K a2 hN h) trivial ?_
        exact And.intro (fun _ => hK) (fun a => absurd rfl a)
      · have ht : t < nt := a1.2.2.2 t hY.1
        have hw4 := hY.w4
        obtain ⟨hW, hC, -⟩ := hY.ok
        obtain ⟨hn1, hn2, hn3, hst⟩ := hW.n
        refine cl_use (fun K h => c_MD_rowY Ω M nt t w o x K a2 hY h) trivial ?_
        refine And.intro (fun _ => hK) (fun _ => ?_)
        conv => whnf
        refine cl_use (fun K h => c_MD_isSpeed Ω _ v K h) trivial ?_
        refine br_bz (fun _ => hK) (fun q1 => ?_)
        conv => whnf
        refine cl_use (fun K h => c_MD_isSlant Ω _ s K h) trivial ?_
        refine br_bz (fun _ => hK) (fun q2 => ?_)
        conv => whnf
        refine And.intro (fun _ => hK) (fun z1 => ?_)
        obtain ⟨k, hk31, rfl⟩ := nI_of z1
        conv => whnf
        refine And.intro (vp_in_nI (by omega) (by decide)) ?_
        rw [nI_clamp (by omega), show mI M 86 0 (4 * t + w) = nI (wN (pg M t) w) from (pgI (M := M) (p := t) (f := 86) (a := w) rfl rfl).trans hn1]
        refine And.intro (fun _ => hK) (fun z2 => ?_)
        have hk : k < 2 ^ wN (pg M t) w := by
          refine Nat.lt_of_not_le (fun q => z2 ?_)
          rw [show (1 : Int32) <<< (nI (wN (pg M t) w) &&& 31) = nI (2 ^ wN (pg M t) w) from sh_n hn3]
          exact nI_le q hk31
        have hk10 := k_1024 hk hn3
        conv => whnf
        refine cl_use (fun K h => c_MD_bits Ω M (nI k) K h) trivial ?_
        rw [mb_c hk10 10 (by omega)]
        refine And.intro (fun z3 => ?_) (fun _ => hK)
        have hl := btC_le k 10
        have z3 : nI (btC k 10) ≤ nI 4 := z3
        rw [nI_leI (by omega) (by decide)] at z3
        exact absurd ⟨t, w, k, hY, q1, q2, rfl, hk, z3⟩ hc
