/-! TURNS, XVII: shakes, shake -/
set_option maxRecDepth 8000 in
theorem t_shakes (Ω : Om) (M : Mem) (x v s : Int32) (h : Inv M) : Turn Ω tyI m_WH_shakes m_MD_shakes [vI x, vI v, vI s] M := by
  obtain ⟨nt, o, a1, a2, a3, a4, a5, a6, a7, a8, a9, a10⟩ := id h
  have hnt := a1.1
  by_cases hc : (∃ t w, RwY M o x t w ∧ pg M t 90 w = 1) ∧ inR 1 40 v = true ∧ inR (-30) 30 s = true
  · obtain ⟨⟨t, w, hY, h90⟩, q1, q2⟩ := hc
    have hw4 := hY.w4
    have ht : t < nt := a1.2.2.2 t hY.1
    have hnR : ¬ RwN M o x := fun q => no_both (M1 := M) q w hY
    obtain ⟨hW, hC, -⟩ := hY.ok
    refine turn_scr h (some (vI (skS (pg M t) w v s (pg M t 83)))) ⟨_, rfl⟩ (fun K hK => ?_) (fun M1 p1 p2 K hK => ?_)
    · refine pr_shakes a1 x v s (fun t' w' hY' => ?_) (fun q => absurd q hnR) (Or.inr ⟨t, w, hY⟩)
      obtain ⟨rfl, rfl⟩ := rw_uq hY hY'
      refine go_wp ok_WH_shakes [] 250 _ _ _ _ _ _ ?_
      conv => whnf
      rw [hC.2.2.2.2.2.1, h90]
      refine And.intro (fun a => absurd a (by decide)) (fun _ => ?_)
      conv => whnf
      refine cl_use (fun K h => c_WH_isSpeed Ω _ v K h) trivial ?_
      rw [q1]
      refine And.intro (fun a => absurd a (by decide)) (fun _ => ?_)
      conv => whnf
      refine cl_use (fun K h => c_WH_isSlant Ω _ s K h) trivial ?_
      rw [q2]
      refine And.intro (fun _ => ?_) (fun a => absurd a (by decide))
      conv => whnf
      refine ⟨fun r M' => r = some (vI (skS (pg M t') w' v s (pg M t' 83))) ∧ Un wSo M M', c_shakesAt Ω M o x t' w' v s _ hY h90 a10 (fun M' a => ⟨rfl, a⟩), trivial, ?_⟩
      rintro r M1 ⟨rfl, hU⟩
      exact hK M1 (hU.mono (wC_of mC_So)) (hU.mono sc_So)
    · have hY1 := hY.un p2 wX_tx
      have ep := pg_av p2 wX_tx t
      refine call_go (hJL rfl) (Nat.le_of_ble_eq_true rfl) (go_wp ok_MD_shakes [] 250 _ _ _ _ _ _ ?_)
      conv => whnf
      refine cl_use (fun K h => c_MD_rowY Ω M1 nt t w o x K (a2.un p1 rfl rfl) hY1 h) trivial ?_
      refine And.intro (fun a => absurd a (nI_nm1 (by omega))) (fun _ => ?_)
      conv => whnf
      refine And.intro (vp_in_nI (by omega) (by decide)) ?_
      rw [nI_clamp (by omega), show mI M1 90 0 (4 * t + w) = pg M1 t 90 w from rfl, ep, h90]
      refine And.intro (fun a => absurd a (by decide)) (fun _ => ?_)
      conv => whnf
      refine cl_use (fun K h => c_MD_isSpeed Ω _ v K h) trivial ?_
      rw [q1]
      refine And.intro (fun a => absurd a (by decide)) (fun _ => ?_)
      conv => whnf
      refine cl_use (fun K h => c_MD_isSlant Ω _ s K h) trivial ?_
      rw [q2]
      refine And.intro (fun _ => ?_) (fun a => absurd a (by decide))
      conv => whnf
      refine ⟨fun r M' => r = some (vI (skS (pg M t) w v s (pg M t 83))) ∧ Un wX M1 M', c_MD_shakesAt Ω M1 t w v s _ (by omega) hw4 (by rw [ep]; exact hW) (fun M' a => ⟨by rw [ep], a⟩), trivial, ?_⟩
      rintro r M2 ⟨rfl, hU⟩
      exact hK M2 hU
  · refine turn_pure h (some (vI (-1))) ⟨_, rfl⟩ (fun K hK => ?_) (fun K hK => ?_)
    · refine pr_shakes a1 x v s (fun t w hY => ?_) (fun _ => hK) (rw_res a1 a6 x)
      obtain ⟨hW, hC, -⟩ := hY.ok
      refine go_wp ok_WH_shakes [] 250 _ _ _ _ _ _ ?_
      conv => whnf
      rw [hC.2.2.2.2.2.1]
      refine And.intro (fun _ => hK) (fun z => ?_)
      have h90 : pg M t 90 w = 1 := hW.2.2.2.2.1.resolve_left z
      conv => whnf
      refine cl_use (fun K h => c_WH_isSpeed Ω _ v K h) trivial ?_
      refine br_bz (fun _ => hK) (fun q1 => ?_)
      conv => whnf
      refine cl_use (fun K h => c_WH_isSlant Ω _ s K h) trivial ?_
      exact br_bn (fun q => absurd ⟨⟨t, w, hY, h90⟩, q1, q⟩ hc) (fun _ => hK)
    · refine call_go (hJL rfl) (Nat.le_of_ble_eq_true rfl) (go_wp ok_MD_shakes [] 250 _ _ _ _ _ _ ?_)
      conv => whnf
      rcases rw_res a1 a6 x with hN | ⟨t, w, hY⟩
      · refine cl_use (fun K h => c_MD_rowN' Ω M nt o x K a2 hN h) trivial ?_
        exact And.intro (fun _ => hK) (fun a => absurd rfl a)
      · obtain ⟨hW, hC, -⟩ := hY.ok
        have hw4 := hY.w4
        have ht : t < nt := a1.2.2.2 t hY.1
        refine cl_use (fun K h => c_MD_rowY Ω M nt t w o x K a2 hY h) trivial ?_
        refine And.intro (fun _ => hK) (fun _ => ?_)
        conv => whnf
        refine And.intro (vp_in_nI (by omega) (by decide)) ?_
        rw [nI_clamp (by omega), show mI M 90 0 (4 * t + w) = pg M t 90 w from rfl]
        refine And.intro (fun _ => hK) (fun z => ?_)
        have h90 : pg M t 90 w = 1 := hW.2.2.2.2.1.resolve_left z
        conv => whnf
        refine cl_use (fun K h => c_MD_isSpeed Ω _ v K h) trivial ?_
        refine br_bz (fun _ => hK) (fun q1 => ?_)
        conv => whnf
        refine cl_use (fun K h => c_MD_isSlant Ω _ s K h) trivial ?_
        exact br_bn (fun q => absurd ⟨⟨t, w, hY, h90⟩, q1, q⟩ hc) (fun _ => hK)
/-- it shakes at this speed -/
def skP (T : Tx) (w : Nat) (s : Int32) (ha : Nat → Int32) (v : Nat) : Bool := decide (skS T w (nI v) s ha = 1)
set_option maxRecDepth 8000 in
theorem t_shake (Ω : Om) (M : Mem) (x s : Int32) (h : Inv M) : Turn Ω tyI m_WH_shake m_MD_shake [vI x, vI s] M := by
  obtain ⟨nt, o, a1, a2, a3, a4, a5, a6, a7, a8, a9, a10⟩ := id h
  have hnt := a1.1
  by_cases hc : (∃ t w, RwY M o x t w ∧ pg M t 90 w = 1) ∧ inR (-30) 30 s = true
  · obtain ⟨⟨t, w, hY, h90⟩, q2⟩ := hc
    have hw4 := hY.w4
    have ht : t < nt := a1.2.2.2 t hY.1
    have hnR : ¬ RwN M o x := fun q => no_both (M1 := M) q w hY
    obtain ⟨hW, hC, -⟩ := hY.ok
    refine turn_scr h (some (vI (opI (fsP (skP (pg M t) w s (pg M t 83)) 40 1)))) ⟨_, rfl⟩ (fun K hK => ?_) (fun M1 p1 p2 K hK => ?_)
    · refine pr_shake a1 x s (fun t' w' hY' => ?_) (fun q => absurd q hnR) (Or.inr ⟨t, w, hY⟩)
      obtain ⟨rfl, rfl⟩ := rw_uq hY hY'
      refine go_wp ok_WH_shake [45] 250 _ _ _ _ _ _ ?_
      conv => whnf
      rw [hC.2.2.2.2.2.1, h90]
      refine And.intro (fun a => absurd a (by decide)) (fun _ => ?_)
      conv => whnf
      refine cl_use (fun K h => c_WH_isSlant Ω _ s K h) trivial ?_
      rw [q2]
      refine And.intro (fun _ => ?_) (fun a => absurd a (by decide))
      have lp : ∀ (m v : Nat) (M1 : Mem), v + m = 41 → 1 ≤ v → Un wSo M M1 → fsP (skP (pg M t') w' s (pg M t' 83)) m v = fsP (skP (pg M t') w' s (pg M t' 83)) 40 1 → GoS Ω true m_WH_shake K 45 [some (vR (some (11, 0))), some (vI x), some (vI s), some (vR (some (7, t'))), some (vR (some (10, 4 * t' + w'))), some (vI (nI v))] [] M1 0 0 := by
        intro m
        induction m with
        | zero =>
          intro v M1 hv _ hU he
          refine go_wp ok_WH_shake [] 250 _ _ _ _ _ _ ?_
          refine And.intro (fun _ => ?_) (fun a => absurd (show (40 : Int32) < nI v from nI_lt (a := 40) (by omega) (by omega)) a)
          have := hK M1 (hU.mono (wC_of mC_So)) (hU.mono sc_So)
          rw [← he] at this
          exact this
        | succ m ih =>
          intro v M1 hv h1 hU he
          have hX := hU.mono sc_So
          have hY1 := hY.un hX wX_tx
          have ep := pg_av hX wX_tx t'
          rw [fsP] at he
          refine go_wp ok_WH_shake [45] 250 _ _ _ _ _ _ ?_
          refine And.intro (fun a => absurd a (nI_nlt (a := 40) (by omega) (by decide))) (fun _ => ?_)
          conv => whnf
          refine ⟨fun r M' => r = some (vI (skS (pg M t') w' (nI v) s (pg M t' 83))) ∧ Un wSo M1 M', c_shakesAt Ω M1 o x t' w' (nI v) s _ hY1 (by rw [ep]; exact h90) (a10.x hX) (fun M' a => ⟨by rw [ep], a⟩), trivial, ?_⟩
          rintro r M2 ⟨rfl, hU2⟩
          refine And.intro (fun z => ?_) (fun z => ?_)
          · have hf : skP (pg M t') w' s (pg M t' 83) v = false := decide_eq_false z
            rw [hf, if_neg (by decide)] at he
            conv => whnf
            have := ih (v + 1) M2 (by omega) (by omega) (hU.trans hU2) he
            rw [← nI_1] at this
            exact this
          · have hf : skP (pg M t') w' s (pg M t' 83) v = true := decide_eq_true z
            rw [hf, if_pos rfl] at he
            have := hK M2 ((hU.trans hU2).mono (wC_of mC_So)) ((hU.trans hU2).mono sc_So)
            rw [← he] at this
            exact this
      conv => whnf
      exact lp 40 1 M rfl (by omega) Un.rfl rfl
    · have hY1 := hY.un p2 wX_tx
      have ep := pg_av p2 wX_tx t
      refine call_go (hJL rfl) (Nat.le_of_ble_eq_true rfl) (go_wp ok_MD_shake [32] 250 _ _ _ _ _ _ ?_)
      conv => whnf
      refine cl_use (fun K h => c_MD_rowY Ω M1 nt t w o x K (a2.un p1 rfl rfl) hY1 h) trivial ?_
      refine And.intro (fun a => absurd a (nI_nm1 (by omega))) (fun _ => ?_)
      conv => whnf
      refine And.intro (vp_in_nI (by omega) (by decide)) ?_
      rw [nI_clamp (by omega), show mI M1 90 0 (4 * t + w) = pg M1 t 90 w from rfl, ep, h90]
      refine And.intro (fun a => absurd a (by decide)) (fun _ => ?_)
      conv => whnf
      refine cl_use (fun K h => c_MD_isSlant Ω _ s K h) trivial ?_
      rw [q2]
      refine And.intro (fun _ => ?_) (fun a => absurd a (by decide))
      have lp : ∀ (m v : Nat) (M2 : Mem), v + m = 41 → 1 ≤ v → Un wX M1 M2 → fsP (skP (pg M t) w s (pg M t 83)) m v = fsP (skP (pg M t) w s (pg M t 83)) 40 1 → GoS Ω true m_MD_shake K 32 [some (vR (some (12, 0))), some (vI x), some (vI s), some (vI (nI (4 * t + w))), some (vI (nI v))] [] M2 0 0 := by
        intro m
        induction m with
        | zero =>
          intro v M2 hv _ hU he
          refine go_wp ok_MD_shake [] 250 _ _ _ _ _ _ ?_
          refine And.intro (fun _ => ?_) (fun a => absurd (show (40 : Int32) < nI v from nI_lt (a := 40) (by omega) (by omega)) a)
          have := hK M2 hU
          rw [← he] at this
          exact this
        | succ m ih =>
          intro v M2 hv h1 hU he
          have ep2 := pg_av (p2.trans hU) wX_tx t
          rw [fsP] at he
          refine go_wp ok_MD_shake [32] 250 _ _ _ _ _ _ ?_
          refine And.intro (fun a => absurd a (nI_nlt (a := 40) (by omega) (by decide))) (fun _ => ?_)
          conv => whnf
          refine ⟨fun r M' => r = some (vI (skS (pg M t) w (nI v) s (pg M t 83))) ∧ Un wX M2 M', c_MD_shakesAt Ω M2 t w (nI v) s _ (by omega) hw4 (by rw [ep2]; exact hW) (fun M' a => ⟨by rw [ep2], a⟩), trivial, ?_⟩
          rintro r M3 ⟨rfl, hU2⟩
          refine And.intro (fun z => ?_) (fun z => ?_)
          · have hf : skP (pg M t) w s (pg M t 83) v = false := decide_eq_false z
            rw [hf, if_neg (by decide)] at he
            conv => whnf
            have := ih (v + 1) M3 (by omega) (by omega) (hU.trans hU2) he
            rw [← nI_1] at this
            exact this
          · have hf : skP (pg M t) w s (pg M t 83) v = true := decide_eq_true z
            rw [hf, if_pos rfl] at he
            have := hK M3 (hU.trans hU2)
            rw [← he] at this
            exact this
      conv => whnf
      exact lp 40 1 M1 rfl (by omega) Un.rfl rfl
  · refine turn_pure h (some (vI (-1))) ⟨_, rfl⟩ (fun K hK => ?_) (fun K hK => ?_)
    · refine pr_shake a1 x s (fun t w hY => ?_) (fun _ => hK) (rw_res a1 a6 x)
      obtain ⟨hW, hC, -⟩ := hY.ok
      refine go_wp ok_WH_shake [] 250 _ _ _ _ _ _ ?_
      conv => whnf
      rw [hC.2.2.2.2.2.1]
      refine And.intro (fun _ => hK) (fun z => ?_)
      have h90 : pg M t 90 w = 1 := hW.2.2.2.2.1.resolve_left z
      conv => whnf
      refine cl_use (fun K h => c_WH_isSlant Ω _ s K h) trivial ?_
      exact br_bn (fun q => absurd ⟨⟨t, w, hY, h90⟩, q⟩ hc) (fun _ => hK)
    · refine call_go (hJL rfl) (Nat.le_of_ble_eq_true rfl) (go_wp ok_MD_shake [] 250 _ _ _ _ _ _ ?_)
      conv => whnf
      rcases rw_res a1 a6 x with hN | ⟨t, w, hY⟩
      · refine cl_use (fun K h => c_MD_rowN' Ω M nt o x K a2 hN h) trivial ?_
        exact And.intro (fun _ => hK) (fun a => absurd rfl a)
      · obtain ⟨hW, hC, -⟩ := hY.ok
        have hw4 := hY.w4
        have ht : t < nt := a1.2.2.2 t hY.1
        refine cl_use (fun K h => c_MD_rowY Ω M nt t w o x K a2 hY h) trivial ?_
        refine And.intro (fun _ => hK) (fun _ => ?_)
        conv => whnf
        refine And.intro (vp_in_nI (by omega) (by decide)) ?_
        rw [nI_clamp (by omega), show mI M 90 0 (4 * t + w) = pg M t 90 w from rfl]
        refine And.intro (fun _ => hK) (fun z => ?_)
        have h90 : pg M t 90 w = 1 := hW.2.2.2.2.1.resolve_left z
        conv => whnf
        refine cl_use (fun K h => c_MD_isSlant Ω _ s K h) trivial ?_
        exact br_bn (fun q => absurd ⟨⟨t, w, hY, h90⟩, q⟩ hc) (fun _ => hK)
