/-! TURNS, VIII: solve -/
theorem onG_un {M M' : Mem} {t w : Nat} {on : Int32} (hU : Un wC M M') : onG M' t w on = onG M t w on := by
  funext i
  unfold onG
  rw [hU.I (k := 119) (i := 0) (s := 4 * t + w) rfl, hU.J (k := 121) (i := 0) (s := 10 * (4 * t + w) + i) rfl]
theorem t_solve (Ω : Om) (M : Mem) (x v s on : Int32) (hon : on = 0 ∨ on = 1) (h : Inv M) : Turn Ω tyI m_WH_solve m_MD_solve [vI x, vI v, vI s, vI on] M := by
  obtain ⟨nt, o, a1, a2, a3, a4, a5, a6, a7, a8, a9, a10⟩ := id h
  by_cases hc : (∃ t w, RwY M o x t w) ∧ inR 1 40 v = true ∧ inR (-30) 30 s = true
  · obtain ⟨⟨t, w, hY⟩, q1, q2⟩ := hc
    have hw4 := hY.w4
    have ht : t < nt := a1.2.2.2 t hY.1
    obtain ⟨hW, -⟩ := hY.ok
    have hnR : ¬ RwN M o x := fun q => no_both (M1 := M) q w hY
    have huq : ∀ t' w', RwY M o x t' w' → t' = t ∧ w' = w := by
      rintro t' w' ⟨e1, nl, nh, nw, nb, Ls, ⟨hO, -⟩, hw', e2⟩
      have := hY.1.symm.trans e1
      cases this
      have l3 := hO.2.2.2.2.1.2.2.1
      refine ⟨rfl, ?_⟩
      have e3 := hY.ok.2.2.2.2.symm.trans e2
      rw [nI_eq (by omega) (by omega)] at e3
      exact e3.symm
    refine ⟨fun r M1 => r = some (vI (rnR (evG M t w v s (nI 0)) (onG M t w on))) ∧ Un wC M M1 ∧ Un (wV (4 * t + w + 2)) M M1 ∧ (rnR (evG M t w v s (nI 0)) (onG M t w on) = -2 → Un wX M M1) ∧ (¬ rnR (evG M t w v s (nI 0)) (onG M t w on) = -2 → KpC M1 (4 * t + w + 2) (evG M t w v s (nI 0)) (onG M t w on)), cl_solve Ω M nt o x v s on h a1 a5 a6 a10 hon _ (fun q => ?_) (fun t' w' hY' _ _ M1 b0 b1 b2 b3 => ?_), ?_⟩
    · rcases q with q | q | q
      · exact absurd q hnR
      · rw [q1] at q; cases q
      · rw [q2] at q; cases q
    · obtain ⟨rfl, rfl⟩ := huq t' w' hY'
      exact ⟨rfl, b0, b1, b2, b3⟩
    · rintro r M1 ⟨rfl, b0, b1, b2, b3⟩
      refine ⟨⟨_, rfl⟩, wV_141 b1, ?_⟩
      have hY1 : RwY M1 o x t w := hY.un b1 (wV_av _)
      refine md_solve Ω M1 nt o x v s on (a2.un b0 rfl rfl) _ hon (Or.inr ⟨t, w, hY1⟩) (fun q => ?_) (fun t' w' hY' _ _ M2 c0 c1 c2 c3 => ?_)
      · rcases q with q | q | q
        · exact absurd hY1 (no_both (M1 := M) q w)
        · rw [q1] at q; cases q
        · rw [q2] at q; cases q
      · have : t' = t ∧ w' = w := huq t' w' (by
          obtain ⟨e1, nl, nh, nw, nb, Ls, hX, hw', e2⟩ := hY'
          have e3 : o = some t := hY.1
          rw [e3] at e1
          cases e1
          obtain ⟨⟨nl', nh', nw', nb', Ls', hX'⟩, -⟩ := a6 t ht
          refine ⟨e3, nl', nh', nw', nb', Ls', hX', ?_, e2⟩
          have k1 := hX.1.2.2.1
          have k2 := hX'.1.2.2.1
          rw [pg_av b1 (wV_av _) t, k2] at k1
          have l3 := hX.1.2.2.2.2.1.2.2.1
          have l3' := hX'.1.2.2.2.2.1.2.2.1
          rw [nI_eq (by omega) (by omega)] at k1
          omega)
        obtain ⟨rfl, rfl⟩ := this
        rw [evG_un b1, onG_un b0] at c2 c3 ⊢
        refine ⟨rfl, ?_, wV_141 c1⟩
        exact both_kept h (E := evG M t' w' v s (nI 0)) (g := onG M t' w' on) rfl (evG_ok hW (by decide)) hw4 (inR_v q1) (onG_bd ((a6 t' ht).2 w' hw4)) b1 b2 b3 c1 c0 c2 c3
  · refine ⟨fun r M1 => r = some (vI (-1)) ∧ M1 = M, cl_solve Ω M nt o x v s on h a1 a5 a6 a10 hon _ (fun _ => ⟨rfl, rfl⟩) (fun t w hY q1 q2 => absurd ⟨⟨t, w, hY⟩, q1, q2⟩ hc), ?_⟩
    rintro r M1 ⟨rfl, rfl⟩
    exact ⟨⟨_, rfl⟩, fun _ => rfl, md_solve Ω M1 nt o x v s on a2 _ hon (rw_res a1 a6 x) (fun _ => ⟨rfl, h, fun _ => rfl⟩) (fun t w hY q1 q2 => absurd ⟨⟨t, w, hY⟩, q1, q2⟩ hc)⟩
