/-! TURNS, XIX: curve -/
theorem wY_141 {M M1 : Mem} (hU : Un wY M M1) : ∀ s, mI M1 141 0 s = mI M 141 0 s := fun s => hU.I rfl
theorem Inv.crv {M M' : Mem} (h : Inv M) (hU : Un wY M M') (hc : Crv M') : Inv M' := by
  obtain ⟨nt, o, a1, a2, a3, a4, a5, a6, a7, a8, a9, a10⟩ := h
  have ep : ∀ t', pg M' t' = pg M t' := fun t' => pg_av hU wY_tx t'
  refine ⟨nt, o, a1.un hU rfl rfl, a2.un hU rfl rfl, ?_, a4.un hU rfl rfl (fun s => rfl) (fun s => rfl), a5.un hU (fun s => rfl) (fun s => rfl), fun t' ht => ?_, hc, a8.un hU (fun s => rfl) (fun s => rfl), a9.un hU rfl rfl (fun k s h => ?_), a10.un hU (fun s => rfl) (fun s => rfl) (fun s => rfl) (fun s => rfl) (fun s => rfl)⟩
  · rw [hU.I (k := 11) (i := 0) (s := 2) rfl, hU.I (k := 12) (i := 0) (s := 17) rfl]; exact a3
  · obtain ⟨⟨nl, nh, nw, nb, Ls, b1⟩, b2⟩ := a6 t' ht
    refine ⟨⟨nl, nh, nw, nb, Ls, b1.un hU wY_tx⟩, fun w' hw' => ?_⟩
    refine (b2 w' hw').un hU (fun k i s q => ?_) (ep t')
    have h1 : cAll k i s = true := cSl_all q
    unfold wY wX
    rw [h1]
    cases e : (Nat.beq k 53 || (Nat.beq k 125 || Nat.beq k 126)) with
    | false => rfl
    | true =>
      simp [nb_d] at e
      simp [cSl, nb_d, nl_d] at q
      omega
  · rcases (show k = 30 ∨ k = 31 ∨ k = 32 ∨ k = 33 ∨ k = 34 ∨ k = 35 ∨ k = 134 ∨ k = 135 ∨ k = 136 ∨ k = 137 ∨ k = 138 ∨ k = 139 by omega) with rfl | rfl | rfl | rfl | rfl | rfl | rfl | rfl | rfl | rfl | rfl | rfl <;> rfl
set_option maxRecDepth 8000 in
theorem c_MD_curve (Ω : Om) (M : Mem) (nt : Nat) (o : Option Nat) (x : Int32) (t w : Nat) (v : Int32) (ia ib : Nat) (K : Ka) (a2 : HdM M nt o) (ht : t < nt) (hY : RwY M o x t w) (hv : inR 1 40 v = true) (ha : ia < 61) (hb : ib < 61)
    (hK : ∀ M', Un wY M M' → (∀ s, mJ M' 53 0 s = mJ M 53 0 s) → CvM M' (wN (pg M t) w) (cvS (pg M t) w v (pg M t 83) (decide (ia ≤ ib)) ia (cvM ia ib + 1)) → K (some (vI (cvS (pg M t) w v (pg M t 83) (decide (ia ≤ ib)) ia (cvM ia ib + 1)).2.1)) M') :
    CallS Ω true m_MD_curve [vR (some (12, 0)), vI x, vI v, vI (sl ia), vI (sl ib)] M K := by
  have hnt := a2.1
  have hw4 := hY.w4
  have hW := hY.ok.1
  have hn3 := hW.n.2.2.1
  refine call_go (hJL rfl) (Nat.le_of_ble_eq_true rfl) (go_wp ok_MD_curve [41] 250 _ _ _ _ _ _ ?_)
  conv => whnf
  refine cl_use (fun K h => c_MD_rowY Ω M nt t w o x K a2 hY h) trivial ?_
  refine And.intro (fun a => absurd a (nI_nm1 (by omega))) (fun _ => ?_)
  conv => whnf
  refine cl_use (fun K h => c_MD_isSpeed Ω _ v K h) trivial ?_
  rw [hv]
  refine And.intro (fun a => absurd a (by decide)) (fun _ => ?_)
  conv => whnf
  refine cl_use (fun K h => c_MD_isSlant Ω _ (sl ia) K h) trivial ?_
  rw [sl_in ha]
  refine And.intro (fun a => absurd a (by decide)) (fun _ => ?_)
  conv => whnf
  refine cl_use (fun K h => c_MD_isSlant Ω _ (sl ib) K h) trivial ?_
  rw [sl_in hb]
  refine And.intro (fun _ => ?_) (fun a => absurd a (by decide))
  conv => whnf
  refine loopN 61 (fun k M1 => Un wMc M M1 ∧ ∀ k', k' < k → mI M1 126 0 k' = 0) (fun k M1 => GoS Ω true m_MD_curve K 41 [some (vR (some (12, 0))), some (vI x), some (vI v), some (vI (sl ia)), some (vI (sl ib)), some (vI (nI (4 * t + w))), some (vI (nI k)), none, none, none, none, none, none, none] [] M1 0 0) ?_ ?_ 0 M (Nat.zero_le _) ⟨Un.rfl, fun k' h => absurd h (Nat.not_lt_zero _)⟩
  · rintro k M1 hk ⟨hU, hA⟩ hN
    refine go_wp ok_MD_curve [41] 250 _ _ _ _ _ _ ?_
    refine And.intro (fun a => absurd a (nI_ge (b := 61) hk (by decide))) (fun _ => ?_)
    conv => whnf
    refine And.intro (vp_in_nI (by omega) (by decide)) ?_
    refine And.intro (Or.inl rfl) ?_
    rw [nI_clamp (by omega)]
    have := hN (sI M1 126 0 k 0) ⟨hU.pI rfl, fun k' hk' => ?_⟩
    · rw [← nI_1] at this
      exact this
    · rw [mI_sI]
      by_cases e : k' = k
      · rw [if_pos ⟨rfl, rfl, e⟩]
      · rw [if_neg (fun q => e q.2.2)]; exact hA k' (by omega)
  · rintro M1 ⟨hU, hA⟩
    have ep : pg M1 t = pg M t := pg_un hU wMc_pg t
    have rest : ∀ up : Bool, up = decide (ia ≤ ib) → GoS Ω true m_MD_curve K 73 [some (vR (some (12, 0))), some (vI x), some (vI v), some (vI (sl ia)), some (vI (sl ib)), some (vI (nI (4 * t + w))), some (vI (nI 61)), none, none, none, none, none, none, none] [vI (dI up)] M1 0 0 := by
      intro up hup
      refine go_wp ok_MD_curve [102] 250 _ _ _ _ _ _ ?_
      conv => whnf
      refine ⟨fun r M' => r = none ∧ Un wSt M1 M' ∧ MeS M' t w (pg M t) v, c_MD_stands Ω M1 t w v (sl ia) 1 0 _ (by omega) hw4 (by rw [ep]; exact hW) (Or.inr rfl) (Or.inl rfl) (fun M' b1 b2 b3 b4 b5 b6 b7 b8 => ⟨rfl, b1, ?_⟩), trivial, ?_⟩
      · rw [ep] at b2 b3
        obtain ⟨c1, c2, c3, c4, c5, -, -⟩ := b2
        exact ⟨c1, c2, c3, c4, c5, b7, b5, b6, b3⟩
      rintro r M2 ⟨rfl, hU2, hS2⟩
      conv => whnf
      refine ⟨fun r M' => r = none ∧ Un wGm M2 M' ∧ (∀ i, i < 10 → mJ M' 113 0 i = 0), c_MD_rests Ω M2 _ (fun M' a b => ⟨rfl, a, b⟩), trivial, ?_⟩
      rintro r M3 ⟨rfl, hU3, h113⟩
      conv => whnf
      have hm3 : Un wMc M2 M3 := hU3.mono (fun k i s h => wGm_rm k i s (wMc_rm k i s h))
      have hY3 : Un wY M M3 := ((hU.mono wY_Mc).trans (hU2.mono (fun k i s h => sc_St k i s (wY_x k i s h)))).trans (hm3.mono wY_Mc)
      have hc0 : CvM M3 (wN (pg M t) w) (cvS (pg M t) w v (pg M t 83) (decide (ia ≤ ib)) ia 0) := by
        refine ⟨fun i hi => h113 i (by omega), fun k hk => ⟨?_, fun y hy => by cases hy⟩⟩
        rw [hU3.I (k := 126) rfl, hU2.I (k := 126) rfl]
        exact hA k hk
      have := cm_loop Ω M3 x t w (pg M t) v ia ib K hW ha hb (fun M' b1 b2 => hK M' (hY3.trans (b1.mono wY_Mc)) (fun s => (b1.J rfl).trans ((hm3.J rfl).trans ((hU2.J rfl).trans (hU.J rfl)))) b2) (hS2.un hm3) hc0
      rw [← hup] at this
      exact this
    refine go_wp ok_MD_curve [73] 250 _ _ _ _ _ _ ?_
    refine And.intro (fun _ => ?_) (fun a => absurd (Int32.le_refl _) a)
    conv => whnf
    have e3 : sl ib < sl ia ↔ ib < ia := by
      rw [Int32.lt_iff_toInt_lt, sl_i (by omega), sl_i (by omega)]
      omega
    refine And.intro (fun q => ?_) (fun q => ?_)
    · conv => whnf
      exact rest false (decide_eq_false (by rw [e3] at q; omega)).symm
    · conv => whnf
      exact rest true (decide_eq_true (by rw [e3] at q; omega)).symm
set_option maxRecDepth 8000 in
theorem t_curve (Ω : Om) (M : Mem) (x v a b : Int32) (h : Inv M) : Turn Ω tyI m_WH_curve m_MD_curve [vI x, vI v, vI a, vI b] M := by
  obtain ⟨nt, o, a1, a2, a3, a4, a5, a6, a7, a8, a9, a10⟩ := id h
  have hnt := a1.1
  by_cases hc : (∃ t w, RwY M o x t w) ∧ inR 1 40 v = true ∧ inR (-30) 30 a = true ∧ inR (-30) 30 b = true
  · obtain ⟨⟨t, w, hY⟩, q1, q2, q3⟩ := hc
    have ht : t < nt := a1.2.2.2 t hY.1
    have hnR : ¬ RwN M o x := fun q => no_both (M1 := M) q w hY
    obtain ⟨ia, ha, rfl⟩ := sl_of q2
    obtain ⟨ib, hb, rfl⟩ := sl_of q3
    refine ⟨fun r M1 => r = some (vI (cvS (pg M t) w v (pg M t 83) (decide (ia ≤ ib)) ia (cvM ia ib + 1)).2.1) ∧ Un wCv M M1 ∧ (∀ k, k < 61 → mJ M1 53 0 k = ((cvS (pg M t) w v (pg M t 83) (decide (ia ≤ ib)) ia (cvM ia ib + 1)).2.2.2 k).getD (-1000000000000)), ?_, ?_⟩
    · refine pr_curve a1 x v (sl ia) (sl ib) (fun t' w' hY' => ?_) (fun q => absurd q hnR) (Or.inr ⟨t, w, hY⟩)
      obtain ⟨rfl, rfl⟩ := rw_uq hY hY'
      refine go_wp ok_WH_curve [] 250 _ _ _ _ _ _ ?_
      conv => whnf
      refine cl_use (fun K h => c_WH_isSpeed Ω _ v K h) trivial ?_
      rw [q1]
      refine And.intro (fun a => absurd a (by decide)) (fun _ => ?_)
      conv => whnf
      refine cl_use (fun K h => c_WH_isSlant Ω _ (sl ia) K h) trivial ?_
      rw [q2]
      refine And.intro (fun a => absurd a (by decide)) (fun _ => ?_)
      conv => whnf
      refine cl_use (fun K h => c_WH_isSlant Ω _ (sl ib) K h) trivial ?_
      rw [q3]
      refine And.intro (fun _ => ?_) (fun a => absurd a (by decide))
      conv => whnf
      refine ⟨fun r M' => r = some (vI (cvS (pg M t') w' v (pg M t' 83) (decide (ia ≤ ib)) ia (cvM ia ib + 1)).2.1) ∧ Un wCv M M' ∧ (∀ k, k < 61 → mJ M' 53 0 k = ((cvS (pg M t') w' v (pg M t' 83) (decide (ia ≤ ib)) ia (cvM ia ib + 1)).2.2.2 k).getD (-1000000000000)), c_drawCurve Ω M o x t' w' v ia ib _ hY a10 q1 ha hb (fun M' a b => ⟨rfl, a, b⟩), trivial, ?_⟩
      rintro r M1 ⟨rfl, hU, hc⟩
      exact ⟨rfl, hU, hc⟩
    · rintro r M1 ⟨rfl, hU, h53⟩
      have p1 : Un wC M M1 := hU.mono (wC_of mC_Cv)
      have p2 : Un wY M M1 := hU.mono wY_Cv
      refine ⟨⟨_, rfl⟩, wY_141 p2, ?_⟩
      have hY1 : RwY M1 o x t w := hY.un p2 wY_tx
      have ep := pg_av p2 wY_tx t
      refine c_MD_curve Ω M1 nt o x t w v ia ib _ (a2.un p1 rfl rfl) ht hY1 q1 ha hb (fun M2 b1 b2 b3 => ?_)
      rw [ep] at b3 ⊢
      refine ⟨rfl, h.crv (p2.trans b1) (fun k hk => ?_), wY_141 b1⟩
      rw [b2, h53 k hk, (b3.2 k hk).1]
      have b3 := (b3.2 k hk).2
      refine ⟨bI_01 _, ?_⟩
      generalize (cvS (pg M t) w v (pg M t 83) (decide (ia ≤ ib)) ia (cvM ia ib + 1)).2.2.2 k = y at b3
      cases y with
      | none => exact (if_pos rfl).symm
      | some y => exact ((if_neg (show ¬ (1 : Int32) = 0 by decide)).trans (b3 y rfl)).symm
  · refine turn_pure h (some (vI (-101))) ⟨_, rfl⟩ (fun K hK => ?_) (fun K hK => ?_)
    · refine pr_curve a1 x v a b (fun t w hY => ?_) (fun _ => hK) (rw_res a1 a6 x)
      refine go_wp ok_WH_curve [] 250 _ _ _ _ _ _ ?_
      conv => whnf
      refine cl_use (fun K h => c_WH_isSpeed Ω _ v K h) trivial ?_
      refine br_bz (fun _ => hK) (fun q1 => ?_)
      conv => whnf
      refine cl_use (fun K h => c_WH_isSlant Ω _ a K h) trivial ?_
      refine br_bz (fun _ => hK) (fun q2 => ?_)
      conv => whnf
      refine cl_use (fun K h => c_WH_isSlant Ω _ b K h) trivial ?_
      exact br_bn (fun q3 => absurd ⟨⟨t, w, hY⟩, q1, q2, q3⟩ hc) (fun _ => hK)
    · refine call_go (hJL rfl) (Nat.le_of_ble_eq_true rfl) (go_wp ok_MD_curve [] 250 _ _ _ _ _ _ ?_)
      conv => whnf
      rcases rw_res a1 a6 x with hN | ⟨t, w, hY⟩
      · refine cl_use (fun K h => c_MD_rowN' Ω M nt o x K a2 hN h) trivial ?_
        exact And.intro (fun _ => hK) (fun a => absurd rfl a)
      · have hw4 := hY.w4
        have ht : t < nt := a1.2.2.2 t hY.1
        refine cl_use (fun K h => c_MD_rowY Ω M nt t w o x K a2 hY h) trivial ?_
        refine And.intro (fun a => absurd a (nI_nm1 (by omega))) (fun _ => ?_)
        conv => whnf
        refine cl_use (fun K h => c_MD_isSpeed Ω _ v K h) trivial ?_
        refine br_bz (fun _ => hK) (fun q1 => ?_)
        conv => whnf
        refine cl_use (fun K h => c_MD_isSlant Ω _ a K h) trivial ?_
        refine br_bz (fun _ => hK) (fun q2 => ?_)
        conv => whnf
        refine cl_use (fun K h => c_MD_isSlant Ω _ b K h) trivial ?_
        exact br_bn (fun q3 => absurd ⟨⟨t, w, hY⟩, q1, q2, q3⟩ hc) (fun _ => hK)
