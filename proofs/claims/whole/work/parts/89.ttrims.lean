/-! TURNS, XVIII: trims, trim, stays -/
theorem trL_av {M M' : Mem} {t w : Nat} {v : Int32} (h : pg M' t = pg M t) : trL M' t w v = trL M t w v := by unfold trL; rw [h]
theorem c_MD_trimsN (Ω : Om) (M : Mem) (nt : Nat) (o : Option Nat) (x : Int32) (v wt : Int32) (K : Ka) (a1 : HdC M nt o) (a2 : HdM M nt o) (a6 : Txt M nt) (hn : ¬ ((∃ t w, RwY M o x t w) ∧ inR 1 40 v = true)) (hK : K (some (vI 0)) M) : CallS Ω true m_MD_trimsOf [vR (some (12, 0)), vI x, vI v, vI wt] M K := by
  refine call_go (hJL rfl) (Nat.le_of_ble_eq_true rfl) (go_wp ok_MD_trimsOf [31] 250 _ _ _ _ _ _ ?_)
  conv => whnf
  rcases rw_res a1 a6 x with hN | ⟨t, w, hY⟩
  · refine cl_use (fun K h => c_MD_rowN' Ω M nt o x K a2 hN h) trivial ?_
    exact And.intro (fun _ => ⟨Or.inl rfl, hK⟩) (fun a => absurd rfl a)
  · have hw4 := hY.w4
    have ht : t < nt := a1.2.2.2 t hY.1
    have hnt := a1.1
    refine cl_use (fun K h => c_MD_rowY Ω M nt t w o x K a2 hY h) trivial ?_
    refine And.intro (fun a => absurd a (nI_nm1 (by omega))) (fun _ => ?_)
    conv => whnf
    refine cl_use (fun K h => c_MD_isSpeed Ω _ v K h) trivial ?_
    exact br_bn (fun q1 => absurd ⟨⟨t, w, hY⟩, q1⟩ hn) (fun _ => ⟨Or.inl rfl, hK⟩)
set_option maxRecDepth 8000 in
theorem t_trims (Ω : Om) (M : Mem) (x v wt : Int32) (h : Inv M) : Turn Ω tyI m_WH_trims m_MD_trims [vI x, vI v, vI wt] M := by
  obtain ⟨nt, o, a1, a2, a3, a4, a5, a6, a7, a8, a9, a10⟩ := id h
  have hnt := a1.1
  by_cases hc : (∃ t w, RwY M o x t w) ∧ inR 1 40 v = true
  · obtain ⟨⟨t, w, hY⟩, q1⟩ := hc
    have ht : t < nt := a1.2.2.2 t hY.1
    have hnR : ¬ RwN M o x := fun q => no_both (M1 := M) q w hY
    refine turn_scr h (some (vI (nI (tfS (trL M t w v) wt.toInt64 60).length))) ⟨_, rfl⟩ (fun K hK => ?_) (fun M1 p1 p2 K hK => ?_)
    · refine pr_trims a1 x v wt (fun t' w' hY' => ?_) (fun q => absurd q hnR) (Or.inr ⟨t, w, hY⟩)
      obtain ⟨rfl, rfl⟩ := rw_uq hY hY'
      refine go_wp ok_WH_trims [] 250 _ _ _ _ _ _ ?_
      conv => whnf
      refine cl_use (fun K h => c_WH_isSpeed Ω _ v K h) trivial ?_
      rw [q1]
      refine And.intro (fun _ => ?_) (fun a => absurd a (by decide))
      conv => whnf
      refine ⟨fun r M' => r = some (vI (nI (tfS (trL M t' w' v) wt.toInt64 60).length)) ∧ Un wTr M M', c_findTrims Ω M o x t' w' v wt.toInt64 _ hY a10 (fun M' a _ => ⟨rfl, a⟩), trivial, ?_⟩
      rintro r M1 ⟨rfl, hU⟩
      exact hK M1 (hU.mono (wC_of mC_Tr)) (hU.mono sc_Tr)
    · have hY1 := hY.un p2 wX_tx
      have ep := pg_av p2 wX_tx t
      refine call_go (hJL rfl) (Nat.le_of_ble_eq_true rfl) (go_wp ok_MD_trims [] 250 _ _ _ _ _ _ ?_)
      conv => whnf
      refine ⟨fun r M' => r = some (vI 1) ∧ Un wX M1 M' ∧ TrM M' (tfS (trL M t w v) wt.toInt64 60), c_MD_trimsOf Ω M1 nt o x t w v wt _ (a2.un p1 rfl rfl) ht hY1 q1 (fun M' a b => ⟨rfl, a, by rw [trL_av ep] at b; exact b⟩), trivial, ?_⟩
      rintro r M2 ⟨rfl, hU, hT⟩
      refine And.intro (fun a => absurd a (by decide)) (fun _ => ?_)
      conv => whnf
      rw [hT.1]
      exact hK M2 hU
  · refine turn_pure h (some (vI (-1))) ⟨_, rfl⟩ (fun K hK => ?_) (fun K hK => ?_)
    · refine pr_trims a1 x v wt (fun t w hY => ?_) (fun _ => hK) (rw_res a1 a6 x)
      refine go_wp ok_WH_trims [] 250 _ _ _ _ _ _ ?_
      conv => whnf
      refine cl_use (fun K h => c_WH_isSpeed Ω _ v K h) trivial ?_
      exact br_bn (fun q => absurd ⟨⟨t, w, hY⟩, q⟩ hc) (fun _ => hK)
    · refine call_go (hJL rfl) (Nat.le_of_ble_eq_true rfl) (go_wp ok_MD_trims [] 250 _ _ _ _ _ _ ?_)
      conv => whnf
      refine cl_use (fun K h => c_MD_trimsN Ω M nt o x v wt K a1 a2 a6 hc h) trivial ?_
      exact And.intro (fun _ => hK) (fun a => absurd rfl a)
set_option maxRecDepth 8000 in
theorem t_trim (Ω : Om) (M : Mem) (x v wt i : Int32) (h : Inv M) : Turn Ω tyI m_WH_trim m_MD_trim [vI x, vI v, vI wt, vI i] M := by
  obtain ⟨nt, o, a1, a2, a3, a4, a5, a6, a7, a8, a9, a10⟩ := id h
  have hnt := a1.1
  by_cases hc : (∃ t w, RwY M o x t w) ∧ inR 1 40 v = true
  · obtain ⟨⟨t, w, hY⟩, q1⟩ := hc
    have ht : t < nt := a1.2.2.2 t hY.1
    have hnR : ¬ RwN M o x := fun q => no_both (M1 := M) q w hY
    have hl := tfS_len (trL M t w v) wt.toInt64 60
    have go : ∀ r : Int32, (∀ l, l = tfS (trL M t w v) wt.toInt64 60 → ((i < 0 ∨ nI l.length ≤ i) ∧ r = -101) ∨ ∃ j, j < l.length ∧ i = nI j ∧ r = sl (l.getD j (0, false)).1) → Turn Ω tyI m_WH_trim m_MD_trim [vI x, vI v, vI wt, vI i] M := by
      intro r hr
      have hr := hr _ rfl
      refine turn_scr h (some (vI r)) ⟨_, rfl⟩ (fun K hK => ?_) (fun M1 p1 p2 K hK => ?_)
      · refine pr_trim a1 x v wt i (fun t' w' hY' => ?_) (fun q => absurd q hnR) (Or.inr ⟨t, w, hY⟩)
        obtain ⟨rfl, rfl⟩ := rw_uq hY hY'
        refine go_wp ok_WH_trim [] 250 _ _ _ _ _ _ ?_
        conv => whnf
        refine cl_use (fun K h => c_WH_isSpeed Ω _ v K h) trivial ?_
        rw [q1]
        refine And.intro (fun _ => ?_) (fun a => absurd a (by decide))
        conv => whnf
        refine ⟨fun r M' => r = some (vI (nI (tfS (trL M t' w' v) wt.toInt64 60).length)) ∧ Un wTr M M' ∧ TrC M' (tfS (trL M t' w' v) wt.toInt64 60), c_findTrims Ω M o x t' w' v wt.toInt64 _ hY a10 (fun M' a b => ⟨rfl, a, b⟩), trivial, ?_⟩
        rintro r M1 ⟨rfl, hU, hT⟩
        have hK1 := hK M1 (hU.mono (wC_of mC_Tr)) (hU.mono sc_Tr)
        rcases hr with ⟨hi, rfl⟩ | ⟨j, hj, rfl, rfl⟩
        · refine And.intro (fun _ => hK1) (fun a => ?_)
          conv => whnf
          refine And.intro (fun _ => hK1) (fun b => ?_)
          exact absurd hi (fun q => q.elim a b)
        · refine And.intro (fun a => absurd a (nI_pos (n := j) (by omega))) (fun _ => ?_)
          conv => whnf
          refine And.intro (fun a => ?_) (fun _ => ?_)
          · rw [nI_leI (by omega) (by omega)] at a; omega
          conv => whnf
          refine And.intro (fun _ => ?_) (fun a => absurd (nI_lt (a := j) (b := 61) (by omega) (by omega)) a)
          conv => whnf
          refine And.intro (vp_in_nI (by omega) (by decide)) ?_
          rw [nI_clamp (by omega), (hT j hj).1]
          exact hK1
      · have hY1 := hY.un p2 wX_tx
        have ep := pg_av p2 wX_tx t
        refine call_go (hJL rfl) (Nat.le_of_ble_eq_true rfl) (go_wp ok_MD_trim [] 250 _ _ _ _ _ _ ?_)
        have hcall : ∀ K : Ka, (∀ M2, Un wX M1 M2 → TrM M2 (tfS (trL M t w v) wt.toInt64 60) → K (some (vI 1)) M2) → CallS Ω true m_MD_trimsOf [vR (some (12, 0)), vI x, vI v, vI wt] M1 K := fun K hK => c_MD_trimsOf Ω M1 nt o x t w v wt _ (a2.un p1 rfl rfl) ht hY1 q1 (fun M' a b => hK M' a (by rw [trL_av ep] at b; exact b))
        rcases hr with ⟨hi, rfl⟩ | ⟨j, hj, rfl, rfl⟩
        · refine And.intro (fun _ => hK M1 Un.rfl) (fun a => ?_)
          conv => whnf
          refine ⟨fun r M' => r = some (vI 1) ∧ Un wX M1 M' ∧ TrM M' (tfS (trL M t w v) wt.toInt64 60), hcall _ (fun M' a b => ⟨rfl, a, b⟩), trivial, ?_⟩
          rintro r M2 ⟨rfl, hU, hT⟩
          refine And.intro (fun a => absurd a (by decide)) (fun _ => ?_)
          conv => whnf
          rw [hT.1]
          refine And.intro (fun _ => hK M2 hU) (fun b => ?_)
          exact absurd hi (fun q => q.elim a b)
        · refine And.intro (fun a => absurd a (nI_pos (n := j) (by omega))) (fun _ => ?_)
          conv => whnf
          refine ⟨fun r M' => r = some (vI 1) ∧ Un wX M1 M' ∧ TrM M' (tfS (trL M t w v) wt.toInt64 60), hcall _ (fun M' a b => ⟨rfl, a, b⟩), trivial, ?_⟩
          rintro r M2 ⟨rfl, hU, hT⟩
          refine And.intro (fun a => absurd a (by decide)) (fun _ => ?_)
          conv => whnf
          rw [hT.1]
          refine And.intro (fun a => ?_) (fun _ => ?_)
          · rw [nI_leI (by omega) (by omega)] at a; omega
          conv => whnf
          refine And.intro (vp_in_nI (by omega) (by decide)) ?_
          rw [nI_clamp (by omega), (hT.2 j hj).1]
          exact hK M2 hU
    rcases nI_cases i (n := (tfS (trL M t w v) wt.toInt64 60).length) (by omega) with ⟨j, hj, e⟩ | hn
    · exact go _ (fun l hl => Or.inr ⟨j, by rw [hl]; exact hj, e, by rw [hl]⟩)
    · exact go (-101) (fun l hl => Or.inl ⟨by rw [hl]; exact nI_no (by omega) hn, rfl⟩)
  · refine turn_pure h (some (vI (-101))) ⟨_, rfl⟩ (fun K hK => ?_) (fun K hK => ?_)
    · refine pr_trim a1 x v wt i (fun t w hY => ?_) (fun _ => hK) (rw_res a1 a6 x)
      refine go_wp ok_WH_trim [] 250 _ _ _ _ _ _ ?_
      conv => whnf
      refine cl_use (fun K h => c_WH_isSpeed Ω _ v K h) trivial ?_
      exact br_bn (fun q => absurd ⟨⟨t, w, hY⟩, q⟩ hc) (fun _ => hK)
    · refine call_go (hJL rfl) (Nat.le_of_ble_eq_true rfl) (go_wp ok_MD_trim [] 250 _ _ _ _ _ _ ?_)
      refine And.intro (fun _ => hK) (fun _ => ?_)
      conv => whnf
      refine cl_use (fun K h => c_MD_trimsN Ω M nt o x v wt K a1 a2 a6 hc h) trivial ?_
      exact And.intro (fun _ => hK) (fun a => absurd rfl a)
set_option maxRecDepth 8000 in
theorem t_stays (Ω : Om) (M : Mem) (x v wt i : Int32) (h : Inv M) : Turn Ω tyI m_WH_stays m_MD_stays [vI x, vI v, vI wt, vI i] M := by
  obtain ⟨nt, o, a1, a2, a3, a4, a5, a6, a7, a8, a9, a10⟩ := id h
  have hnt := a1.1
  by_cases hc : (∃ t w, RwY M o x t w) ∧ inR 1 40 v = true
  · obtain ⟨⟨t, w, hY⟩, q1⟩ := hc
    have ht : t < nt := a1.2.2.2 t hY.1
    have hnR : ¬ RwN M o x := fun q => no_both (M1 := M) q w hY
    have hl := tfS_len (trL M t w v) wt.toInt64 60
    have go : ∀ r : Int32, (∀ l, l = tfS (trL M t w v) wt.toInt64 60 → ((i < 0 ∨ nI l.length ≤ i) ∧ r = -1) ∨ ∃ j, j < l.length ∧ i = nI j ∧ r = bI (l.getD j (0, false)).2) → Turn Ω tyI m_WH_stays m_MD_stays [vI x, vI v, vI wt, vI i] M := by
      intro r hr
      have hr := hr _ rfl
      refine turn_scr h (some (vI r)) ⟨_, rfl⟩ (fun K hK => ?_) (fun M1 p1 p2 K hK => ?_)
      · refine pr_stays a1 x v wt i (fun t' w' hY' => ?_) (fun q => absurd q hnR) (Or.inr ⟨t, w, hY⟩)
        obtain ⟨rfl, rfl⟩ := rw_uq hY hY'
        refine go_wp ok_WH_stays [] 250 _ _ _ _ _ _ ?_
        conv => whnf
        refine cl_use (fun K h => c_WH_isSpeed Ω _ v K h) trivial ?_
        rw [q1]
        refine And.intro (fun _ => ?_) (fun a => absurd a (by decide))
        conv => whnf
        refine ⟨fun r M' => r = some (vI (nI (tfS (trL M t' w' v) wt.toInt64 60).length)) ∧ Un wTr M M' ∧ TrC M' (tfS (trL M t' w' v) wt.toInt64 60), c_findTrims Ω M o x t' w' v wt.toInt64 _ hY a10 (fun M' a b => ⟨rfl, a, b⟩), trivial, ?_⟩
        rintro r M1 ⟨rfl, hU, hT⟩
        have hK1 := hK M1 (hU.mono (wC_of mC_Tr)) (hU.mono sc_Tr)
        rcases hr with ⟨hi, rfl⟩ | ⟨j, hj, rfl, rfl⟩
        · refine And.intro (fun _ => hK1) (fun a => ?_)
          conv => whnf
          refine And.intro (fun _ => hK1) (fun b => ?_)
          exact absurd hi (fun q => q.elim a b)
        · refine And.intro (fun a => absurd a (nI_pos (n := j) (by omega))) (fun _ => ?_)
          conv => whnf
          refine And.intro (fun a => ?_) (fun _ => ?_)
          · rw [nI_leI (by omega) (by omega)] at a; omega
          conv => whnf
          refine And.intro (fun _ => ?_) (fun a => absurd (nI_lt (a := j) (b := 61) (by omega) (by omega)) a)
          conv => whnf
          refine And.intro (vp_in_nI (by omega) (by decide)) ?_
          rw [nI_clamp (by omega), (hT j hj).2]
          generalize ((tfS (trL M t' w' v) wt.toInt64 60).getD j (0, false)).2 = b at hK1
          cases b
          · exact And.intro (fun _ => hK1) (fun a => absurd rfl a)
          · exact And.intro (fun a => absurd a (by decide)) (fun _ => hK1)
      · have hY1 := hY.un p2 wX_tx
        have ep := pg_av p2 wX_tx t
        refine call_go (hJL rfl) (Nat.le_of_ble_eq_true rfl) (go_wp ok_MD_stays [] 250 _ _ _ _ _ _ ?_)
        have hcall : ∀ K : Ka, (∀ M2, Un wX M1 M2 → TrM M2 (tfS (trL M t w v) wt.toInt64 60) → K (some (vI 1)) M2) → CallS Ω true m_MD_trimsOf [vR (some (12, 0)), vI x, vI v, vI wt] M1 K := fun K hK => c_MD_trimsOf Ω M1 nt o x t w v wt _ (a2.un p1 rfl rfl) ht hY1 q1 (fun M' a b => hK M' a (by rw [trL_av ep] at b; exact b))
        rcases hr with ⟨hi, rfl⟩ | ⟨j, hj, rfl, rfl⟩
        · refine And.intro (fun _ => hK M1 Un.rfl) (fun a => ?_)
          conv => whnf
          refine ⟨fun r M' => r = some (vI 1) ∧ Un wX M1 M' ∧ TrM M' (tfS (trL M t w v) wt.toInt64 60), hcall _ (fun M' a b => ⟨rfl, a, b⟩), trivial, ?_⟩
          rintro r M2 ⟨rfl, hU, hT⟩
          refine And.intro (fun a => absurd a (by decide)) (fun _ => ?_)
          conv => whnf
          rw [hT.1]
          refine And.intro (fun b => ?_) (fun _ => hK M2 hU)
          exact absurd hi (fun q => q.elim a (fun q => absurd b (Int32.not_lt.mpr q)))
        · refine And.intro (fun a => absurd a (nI_pos (n := j) (by omega))) (fun _ => ?_)
          conv => whnf
          refine ⟨fun r M' => r = some (vI 1) ∧ Un wX M1 M' ∧ TrM M' (tfS (trL M t w v) wt.toInt64 60), hcall _ (fun M' a b => ⟨rfl, a, b⟩), trivial, ?_⟩
          rintro r M2 ⟨rfl, hU, hT⟩
          refine And.intro (fun a => absurd a (by decide)) (fun _ => ?_)
          conv => whnf
          rw [hT.1]
          refine And.intro (fun _ => ?_) (fun a => absurd (nI_lt hj (by omega)) a)
          conv => whnf
          refine And.intro (vp_in_nI (by omega) (by decide)) ?_
          rw [nI_clamp (by omega), (hT.2 j hj).2]
          have hK1 := hK M2 hU
          generalize ((tfS (trL M t w v) wt.toInt64 60).getD j (0, false)).2 = b at hK1
          cases b
          · exact And.intro (fun _ => hK1) (fun a => absurd rfl a)
          · exact And.intro (fun a => absurd a (by decide)) (fun _ => hK1)
    rcases nI_cases i (n := (tfS (trL M t w v) wt.toInt64 60).length) (by omega) with ⟨j, hj, e⟩ | hn
    · exact go _ (fun l hl => Or.inr ⟨j, by rw [hl]; exact hj, e, by rw [hl]⟩)
    · exact go (-1) (fun l hl => Or.inl ⟨by rw [hl]; exact nI_no (by omega) hn, rfl⟩)
  · refine turn_pure h (some (vI (-1))) ⟨_, rfl⟩ (fun K hK => ?_) (fun K hK => ?_)
    · refine pr_stays a1 x v wt i (fun t w hY => ?_) (fun _ => hK) (rw_res a1 a6 x)
      refine go_wp ok_WH_stays [] 250 _ _ _ _ _ _ ?_
      conv => whnf
      refine cl_use (fun K h => c_WH_isSpeed Ω _ v K h) trivial ?_
      exact br_bn (fun q => absurd ⟨⟨t, w, hY⟩, q⟩ hc) (fun _ => hK)
    · refine call_go (hJL rfl) (Nat.le_of_ble_eq_true rfl) (go_wp ok_MD_stays [] 250 _ _ _ _ _ _ ?_)
      refine And.intro (fun _ => hK) (fun _ => ?_)
      conv => whnf
      refine cl_use (fun K h => c_MD_trimsN Ω M nt o x v wt K a1 a2 a6 hc h) trivial ?_
      exact And.intro (fun _ => hK) (fun a => absurd rfl a)
