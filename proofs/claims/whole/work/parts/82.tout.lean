/-! TURNS, XV: out -/
theorem nat_le {y : Int32} {nr : Nat} (hr : nr ≤ 60) (h : inR 0 (nI nr) y = true) : ∃ n, n ≤ nr ∧ y = nI n := by
  obtain ⟨h1, h2⟩ := inR_t.mp h
  obtain ⟨j, hj, e⟩ := nI_of (Int32.not_lt.mpr h1)
  subst e
  rw [nI_leI hj (by omega)] at h2
  exact ⟨j, h2, rfl⟩
set_option maxRecDepth 8000 in
theorem t_out (Ω : Om) (M : Mem) (x y : Int32) (h : Inv M) : Turn Ω tyI m_WH_out m_MD_out [vI x, vI y] M := by
  obtain ⟨nt, o, a1, a2, a3, a4, a5, a6, a7, a8, ⟨nr, hr, d1, d2, d3⟩, a10⟩ := id h
  have hn4 := a1.1
  by_cases hc : (∃ t, t < nt ∧ x = nI t) ∧ inR 0 (nI nr) y = true
  · obtain ⟨⟨t, ht, rfl⟩, hy⟩ := hc
    obtain ⟨y1, y2⟩ := inR_t.mp hy
    obtain ⟨n, hn, rfl⟩ := nat_le hr hy
    obtain ⟨⟨nl, nh, nw, nb, Ls, hX⟩, -⟩ := a6 t ht
    refine turn_scr h (some (vI (match ouM M t nw n with | some r => nI r | none => -2))) ⟨_, rfl⟩ (fun K hK => ?_) (fun M1 p1 p2 K hK => ?_)
    · refine call_go (hJL rfl) (Nat.le_of_ble_eq_true rfl) (go_wp ok_WH_out [] 250 _ _ _ _ _ _ ?_)
      conv => whnf
      refine cl_use (fun K h => c_textOf1 Ω M nt t K hn4 a1.2.1 ht h) trivial ?_
      conv => whnf
      refine And.intro (fun a => absurd a (nI_pos (by omega))) (fun _ => And.intro (fun _ => ?_) (fun a => ?_))
      · conv => whnf
        refine ⟨fun q M' => q = some (vI (match ouM M t nw n with | some r => nI r | none => -2)) ∧ Un wSo M M', c_outBy Ω M t n nr nl nh nw nb Ls _ hn hr hX a10 d3 (fun M' a => ⟨rfl, a⟩), trivial, ?_⟩
        rintro q M1 ⟨rfl, hU⟩
        exact hK M1 (hU.mono (wC_of mC_So)) (hU.mono sc_So)
      · rw [d1] at a; exact absurd y2 a
    · have hX1 := hX.un p2 wX_tx
      refine call_go (hJL rfl) (Nat.le_of_ble_eq_true rfl) (go_wp ok_MD_out [] 250 _ _ _ _ _ _ ?_)
      conv => whnf
      rw [(p2.I (k := 12) (i := 0) (s := 18) rfl).trans a2.2.1]
      refine cl_use (fun K h => c_MD_in Ω _ (nI t) 0 (nI nt - 1) K h) trivial ?_
      rw [inR_y (by omega) ht]
      refine And.intro (fun a => absurd a (by decide)) (fun _ => ?_)
      conv => whnf
      rw [(p2.I (k := 12) (i := 0) (s := 97) rfl).trans d2]
      refine cl_use (fun K h => c_MD_in Ω _ (nI n) 0 (nI nr) K h) trivial ?_
      rw [hy]
      refine And.intro (fun _ => ?_) (fun a => absurd a (by decide))
      conv => whnf
      have d3' : ∀ r, r < nr → RnR M1 r := fun r hr' => by
        have := d3 r hr'
        unfold RnR at this ⊢
        rw [p2.I (k := 30) rfl, p2.I (k := 31) rfl, p2.I (k := 32) rfl, p2.I (k := 33) rfl, p2.I (k := 34) rfl, p2.I (k := 35) rfl, p2.I (k := 134) rfl, p2.I (k := 135) rfl, p2.I (k := 136) rfl, p2.I (k := 137) rfl, p2.I (k := 138) rfl, p2.I (k := 139) rfl]
        exact this
      refine ⟨fun q M' => q = some (vI (hI (ouM M1 t nw n))) ∧ Un wX M1 M', c_MD_outBy Ω M1 t n nr nl nh nw nb Ls _ (by omega) hn hr hX1 d3' (fun M' a b => ⟨rfl, b⟩), trivial, ?_⟩
      rintro q M2 ⟨rfl, hU⟩
      rw [ouM_un p2]
      have hK := hK M2 hU
      have ol : ∀ (m r : Nat), r + m = n → ∀ q, ouS (fun r => mI M 134 0 r) (fiM M t nw) n m r = some q → q < n := by
        intro m
        induction m with
        | zero => intro r _ q e; cases e
        | succ m ih =>
          intro r hr' q e
          rw [ouS] at e
          split at e
          · cases e; omega
          · exact ih (r + 1) (by omega) q e
      cases hq : ouM M t nw n with
      | none =>
        rw [hq] at hK
        exact And.intro (fun a => absurd rfl a) (fun _ => hK)
      | some r =>
        have := ol n 0 (by omega) r hq
        rw [hq] at hK
        exact And.intro (fun _ => hK) (fun a => absurd a (nI_nm1 (show r < 2 ^ 31 by omega)))
  · refine turn_pure h (some (vI (-1))) ⟨_, rfl⟩ (fun K hK => ?_) (fun K hK => ?_)
    · refine call_go (hJL rfl) (Nat.le_of_ble_eq_true rfl) (go_wp ok_WH_out [] 250 _ _ _ _ _ _ ?_)
      conv => whnf
      rcases nI_cases x (n := nt) (by omega) with ⟨t, ht, e⟩ | q
      · subst e
        refine cl_use (fun K h => c_textOf1 Ω M nt t K hn4 a1.2.1 ht h) trivial ?_
        conv => whnf
        refine And.intro (fun _ => hK) (fun z1 => And.intro (fun z2 => ?_) (fun _ => hK))
        rw [d1] at z2
        exact absurd ⟨⟨t, ht, rfl⟩, inR_t.mpr ⟨Int32.not_lt.mp z1, z2⟩⟩ hc
      · refine cl_use (fun K h => c_textOf0 Ω M nt x K hn4 a1.2.1 q h) trivial ?_
        exact hK
    · refine call_go (hJL rfl) (Nat.le_of_ble_eq_true rfl) (go_wp ok_MD_out [] 250 _ _ _ _ _ _ ?_)
      conv => whnf
      rw [a2.2.1]
      refine cl_use (fun K h => c_MD_in Ω _ x 0 (nI nt - 1) K h) trivial ?_
      refine br_bz (fun _ => hK) (fun e1 => ?_)
      conv => whnf
      have hx : ∃ t, t < nt ∧ x = nI t := by
        rcases nI_cases x (n := nt) (by omega) with q | q
        · exact q
        · rw [inR_n (by omega) q] at e1; cases e1
      rw [d2]
      refine cl_use (fun K h => c_MD_in Ω _ y 0 (nI nr) K h) trivial ?_
      refine br_bn (fun e2 => absurd ⟨hx, e2⟩ hc) (fun _ => hK)
