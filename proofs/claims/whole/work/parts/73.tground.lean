/-! TURNS, IX: ground -/
theorem rw_uq {M M1 : Mem} {o : Option Nat} {x : Int32} {t w t' w' : Nat} (h : RwY M o x t w) (h' : RwY M1 o x t' w') : t' = t ∧ w' = w := by
  obtain ⟨e1, nl, nh, nw, nb, Ls, ⟨hO, -⟩, hw, e2⟩ := h
  obtain ⟨e1', nl', nh', nw', nb', Ls', ⟨hO', -⟩, hw', e2'⟩ := h'
  have := e1.symm.trans e1'
  cases this
  have l3 := hO.2.2.2.2.1.2.2.1
  have l3' := hO'.2.2.2.2.1.2.2.1
  refine ⟨rfl, ?_⟩
  have e3 := e2.symm.trans e2'
  rw [nI_eq (by omega) (by omega)] at e3
  exact e3.symm
theorem CE.h {M : Mem} {t w : Nat} {T : Tx} {v h0 h : Int32} {b : Nat → Int32} {a : Nat → Int64} (hE : CE M t (T, w, v, h0, b, a)) : CE (sI M 6 0 8 h) t (T, w, v, h, b, a) := by
  obtain ⟨a1, a2, a3, a4, a5, a6, a7, a8, a9, a10⟩ := hE
  have hU : Un wX M (sI M 6 0 8 h) := Un.rfl.pI rfl
  refine ⟨a1, a2, ?_, a4, a5, a6, a7, a8.un hU (fun _ _ => rfl) (fun k i s h1 h2 => ?_), fun i hi k hk q => (a9 i hi k hk q).un hU (fun _ _ => rfl) (fun _ _ => rfl) (fun _ _ => rfl), a10⟩
  · rw [mI_sI, if_pos ⟨rfl, rfl, rfl⟩]; rfl
  · rcases (show k = 57 ∨ k = 58 ∨ k = 59 ∨ k = 60 ∨ k = 61 ∨ k = 62 by omega) with rfl | rfl | rfl | rfl | rfl | rfl <;> rfl
theorem ME.h {M : Mem} {p w : Nat} {T : Tx} {v h0 h : Int32} {b : Nat → Int32} {a : Nat → Int64} (hE : ME M p (T, w, v, h0, b, a)) : ME (sI M 12 0 75 h) p (T, w, v, h, b, a) := by
  obtain ⟨⟨a0, a1, a2⟩, a3, a4, a5, a6, a7, a8⟩ := hE
  have ep : pg (sI M 12 0 75 h) p = pg M p := pg_un (w := wSt) (Un.rfl.pI rfl) wSt_pg p
  refine ⟨⟨a0, a1, ?_⟩, a3, a4, a5, ?_, fun i hi => ?_, a8⟩
  · rw [ep]; exact a2
  · rw [mI_sI, if_pos ⟨rfl, rfl, rfl⟩]; rfl
  · have := a7 i hi
    rw [ep]
    exact this
set_option maxRecDepth 8000 in
theorem t_ground (Ω : Om) (M : Mem) (x v s hg : Int32) (h : Inv M) : Turn Ω tyI m_WH_ground m_MD_ground [vI x, vI v, vI s, vI hg] M := by
  obtain ⟨nt, o, a1, a2, a3, a4, a5, a6, a7, a8, a9, a10⟩ := id h
  have hnt := a1.1
  by_cases hc : (∃ t w, RwY M o x t w) ∧ inR 1 40 v = true ∧ inR (-30) 30 s = true ∧ inR 1 20 hg = true
  · obtain ⟨⟨t, w, hY⟩, q1, q2, q3⟩ := hc
    have hw4 := hY.w4
    have ht : t < nt := a1.2.2.2 t hY.1
    obtain ⟨hW, hC, hL, h44, hx⟩ := hY.ok
    have hn3 := hW.n.2.2.1
    have hnR : ¬ RwN M o x := fun q => no_both (M1 := M) q w hY
    obtain ⟨hh, hh21, rfl⟩ : ∃ hh, hh < 21 ∧ hg = nI hh := by
      obtain ⟨b1, b2⟩ := inR_t.mp q3
      rw [Int32.le_iff_toInt_le, show (1 : Int32).toInt = 1 from rfl] at b1
      rw [Int32.le_iff_toInt_le, show (20 : Int32).toInt = 20 from rfl] at b2
      refine ⟨hg.toInt.toNat, by omega, ?_⟩
      apply Int32.toInt_inj.mp
      rw [nI_toInt (by omega)]
      omega
    obtain ⟨g1, g2⟩ := inR_t.mp q3
    refine ⟨fun r M1 => r = some (vI (rnR (evG M t w v s (nI hh)) (fun _ => 0))) ∧ Un wC M M1 ∧ Un (wV (4 * t + w + 2)) M M1 ∧ (rnR (evG M t w v s (nI hh)) (fun _ => 0) = -2 → Un wX M M1) ∧ (¬ rnR (evG M t w v s (nI hh)) (fun _ => 0) = -2 → KpC M1 (4 * t + w + 2) (evG M t w v s (nI hh)) (fun _ => 0)), ?_, ?_⟩
    · refine pr_ground a1 x v s (nI hh) (fun t' w' hY' => ?_) (fun q => absurd q hnR) (Or.inr ⟨t, w, hY⟩)
      obtain ⟨rfl, rfl⟩ := rw_uq hY hY'
      refine go_wp ok_WH_ground [] 250 _ _ _ _ _ _ ?_
      conv => whnf
      refine cl_use (fun K h => c_WH_isSpeed Ω _ v K h) trivial ?_
      rw [q1]
      refine And.intro (fun a => absurd a (by decide)) (fun _ => ?_)
      conv => whnf
      refine cl_use (fun K h => c_WH_isSlant Ω _ s K h) trivial ?_
      rw [q2]
      refine And.intro (fun a => absurd a (by decide)) (fun _ => And.intro (fun a => absurd a (Int32.not_lt.mpr g1)) (fun _ => And.intro (fun _ => ?_) (fun a => absurd g2 a)))
      conv => whnf
      refine ⟨fun r M' => r = none ∧ Un wSo M M' ∧ CE M' t' (evG M t' w' v s (nI 0)) ∧ ∀ i, i < 10 → mJ M' 23 0 i = 0, c_setG Ω M t' w' v s _ a5 a10 hW hC hL h44 (fun M' a b c d => ⟨rfl, a, b, c⟩), trivial, ?_⟩
      rintro r M1 ⟨rfl, hU1, hE1, h23⟩
      have hU2 : Un wSo M (sI M1 6 0 8 (nI hh)) := hU1.pI rfl
      have hE2 : CE (sI M1 6 0 8 (nI hh)) t' (evG M t' w' v s (nI hh)) := CE.h hE1
      conv => whnf
      refine ⟨fun r M' => (∃ y, r = some (vI y)) ∧ r = some (vI (rnR (evG M t' w' v s (nI hh)) (fun _ => 0))) ∧ Un wC M M' ∧ Un (wV (4 * t' + w' + 2)) M M' ∧ (rnR (evG M t' w' v s (nI hh)) (fun _ => 0) = -2 → Un wX M M') ∧ (¬ rnR (evG M t' w' v s (nI hh)) (fun _ => 0) = -2 → KpC M' (4 * t' + w' + 2) (evG M t' w' v s (nI hh)) (fun _ => 0)), c_sak Ω _ t' (evG M t' w' v s (nI hh)) (fun _ => 0) _ hE2 (evG_ok hW hh21) GB0 (fun i hi => h23 i (by have : i < wN (pg M t') w' := hi; omega)) (fun M' b0 b1 b2 b3 => ⟨⟨_, rfl⟩, rfl, (hU2.mono (wC_of mC_So)).trans b0, ((hU2.mono sc_So).mono wV_x).trans b1, fun z => (hU2.mono sc_So).trans (b2 z), b3⟩), trivial, ?_⟩
      rintro r M3 ⟨⟨y, rfl⟩, hr⟩
      conv => whnf
      exact hr
    · rintro r M1 ⟨rfl, b0, b1, b2, b3⟩
      refine ⟨⟨_, rfl⟩, wV_141 b1, ?_⟩
      have hY1 : RwY M1 o x t w := hY.un b1 (wV_av _)
      obtain ⟨hW1, -⟩ := hY1.ok
      refine call_go (hJL rfl) (Nat.le_of_ble_eq_true rfl) (go_wp ok_MD_ground [] 250 _ _ _ _ _ _ ?_)
      conv => whnf
      refine cl_use (fun K h => c_MD_rowY Ω M1 nt t w o x K (a2.un b0 rfl rfl) hY1 h) trivial ?_
      refine And.intro (fun a => absurd a (nI_nm1 (by omega))) (fun _ => ?_)
      conv => whnf
      refine cl_use (fun K h => c_MD_isSpeed Ω _ v K h) trivial ?_
      rw [q1]
      refine And.intro (fun a => absurd a (by decide)) (fun _ => ?_)
      conv => whnf
      refine cl_use (fun K h => c_MD_isSlant Ω _ s K h) trivial ?_
      rw [q2]
      refine And.intro (fun a => absurd a (by decide)) (fun _ => ?_)
      conv => whnf
      refine cl_use (fun K h => c_MD_in Ω _ (nI hh) 1 20 K h) trivial ?_
      rw [q3]
      refine And.intro (fun _ => ?_) (fun a => absurd a (by decide))
      conv => whnf
      refine ⟨fun r M' => r = none ∧ Un wSt M1 M' ∧ ME M' t (evG M1 t w v s (nI 0)), c_MD_stands Ω M1 t w v s 1 1 _ (by omega) hw4 hW1 (Or.inr rfl) (Or.inr rfl) (fun M' a b c d e f g i => ⟨rfl, a, b⟩), trivial, ?_⟩
      rintro r M2 ⟨rfl, hU1, hE1⟩
      conv => whnf
      refine ⟨fun r M' => r = none ∧ Un wGm M2 M' ∧ (∀ i, i < 10 → mJ M' 113 0 i = 0), c_MD_rests Ω M2 _ (fun M' a b => ⟨rfl, a, b⟩), trivial, ?_⟩
      rintro r M3 ⟨rfl, hU2, h113⟩
      conv => whnf
      have hE3 : ME (sI M3 12 0 75 (nI hh)) t (evG M1 t w v s (nI hh)) := ME.h (hE1.un (hU2.mono wGm_rm))
      have hU3 : Un wSt M3 (sI M3 12 0 75 (nI hh)) := Un.rfl.pI rfl
      have hX3 : Un wX M1 (sI M3 12 0 75 (nI hh)) := ((hU1.mono sc_St).trans (hU2.mono sc_Gm)).trans (hU3.mono sc_St)
      have hM3 : Un wM M1 (sI M3 12 0 75 (nI hh)) := ((hU1.mono (wM_of mM_St)).trans (hU2.mono (wM_of mM_Gm))).trans (hU3.mono (wM_of mM_St))
      have hq := c_rk Ω (sI M3 12 0 75 (nI hh)) t (evG M1 t w v s (nI hh)) (fun _ => 0) hE3 (evG_ok hW1 hh21) (fun i hi => h113 i (by have : i < wN (pg M1 t) w := hi; have := hW1.n.2.2.1; omega)) (fun r M' => (∃ y, r = some (vI y)) ∧ r = some (vI (rnR (evG M t w v s (nI hh)) (fun _ => 0))) ∧ Inv M' ∧ ∀ s, mI M' 141 0 s = mI M1 141 0 s) (fun M' c0 c1 c2 c3 => by
        have d0 := hM3.trans c0
        have d1 := (hX3.mono wV_x).trans c1
        have d2 := fun z => hX3.trans (c2 z)
        rw [evG_un b1] at d1 d2 c3 ⊢
        exact ⟨⟨_, rfl⟩, rfl, both_kept h (E := evG M t w v s (nI hh)) (g := fun _ => 0) rfl (evG_ok hW hh21) hw4 (inR_v q1) GB0 b1 b2 b3 d1 d0 d2 c3, wV_141 d1⟩)
      obtain ⟨K0, c1, -, c2⟩ := hq
      refine ⟨K0, c1, trivial, ?_⟩
      intro r M4 hr
      obtain ⟨y, rfl, K1, c3, -, c4⟩ := c2 r M4 hr
      conv => whnf
      refine ⟨K1, c3, trivial, ?_⟩
      intro r5 M5 hr5
      obtain ⟨⟨y5, rfl⟩, hk⟩ := c4 r5 M5 hr5
      conv => whnf
      exact hk
  · refine turn_pure h (some (vI (-1))) ⟨_, rfl⟩ (fun K hK => ?_) (fun K hK => ?_)
    · refine pr_ground a1 x v s hg (fun t w hY => ?_) (fun _ => hK) (rw_res a1 a6 x)
      refine go_wp ok_WH_ground [] 250 _ _ _ _ _ _ ?_
      conv => whnf
      refine cl_use (fun K h => c_WH_isSpeed Ω _ v K h) trivial ?_
      refine br_bz (fun _ => hK) (fun q1 => ?_)
      conv => whnf
      refine cl_use (fun K h => c_WH_isSlant Ω _ s K h) trivial ?_
      refine br_bz (fun _ => hK) (fun q2 => ?_)
      refine And.intro (fun _ => hK) (fun z1 => And.intro (fun z2 => ?_) (fun _ => hK))
      exact absurd ⟨⟨t, w, hY⟩, q1, q2, inR_t.mpr ⟨Int32.not_lt.mp z1, z2⟩⟩ hc
    · refine call_go (hJL rfl) (Nat.le_of_ble_eq_true rfl) (go_wp ok_MD_ground [] 250 _ _ _ _ _ _ ?_)
      conv => whnf
      rcases rw_res a1 a6 x with hN | ⟨t, w, hY⟩
      · refine cl_use (fun K h => c_MD_rowN' Ω M nt o x K a2 hN h) trivial ?_
        exact And.intro (fun _ => hK) (fun a => absurd rfl a)
      · have ht : t < nt := a1.2.2.2 t hY.1
        have hw4 := hY.w4
        refine cl_use (fun K h => c_MD_rowY Ω M nt t w o x K a2 hY h) trivial ?_
        refine And.intro (fun _ => hK) (fun _ => ?_)
        conv => whnf
        refine cl_use (fun K h => c_MD_isSpeed Ω _ v K h) trivial ?_
        refine br_bz (fun _ => hK) (fun q1 => ?_)
        conv => whnf
        refine cl_use (fun K h => c_MD_isSlant Ω _ s K h) trivial ?_
        refine br_bz (fun _ => hK) (fun q2 => ?_)
        conv => whnf
        refine cl_use (fun K h => c_MD_in Ω _ hg 1 20 K h) trivial ?_
        refine br_bn (fun q3 => ?_) (fun _ => hK)
        exact absurd ⟨⟨t, w, hY⟩, q1, q2, q3⟩ hc
