/-! TURNS, XIII: force, barred, where -/
set_option maxRecDepth 8000 in
theorem t_force (Ω : Om) (M : Mem) (x c : Int32) (h : Inv M) : Turn Ω tyJ m_WH_force m_MD_force [vI x, vI c] M := by
  obtain ⟨nt, o, a1, a2, a3, a4, a5, a6, a7, a8, a9, a10⟩ := id h
  rcases sv_res a1 a6 x with hN | ⟨t, w, v, g, d, b, a, hS⟩
  · refine turn_scr h (some (vJ (-1000000000000))) ⟨_, rfl⟩ (fun K hK => ?_) (fun M1 p1 p2 K hK => ?_)
    · refine call_go (hJL rfl) (Nat.le_of_ble_eq_true rfl) (go_wp ok_WH_force [] 250 _ _ _ _ _ _ ?_)
      conv => whnf
      refine cl_use (fun K h => c_solvedN Ω M nt o x K a1 hN h) trivial ?_
      conv => whnf
      rw [a1.2.2.1]
      refine cl_use (fun K h => c_textOfH Ω M nt o K a1 h) trivial ?_
      exact hK M Un.rfl Un.rfl
    · refine call_go (hJL rfl) (Nat.le_of_ble_eq_true rfl) (go_wp ok_MD_force [] 250 _ _ _ _ _ _ ?_)
      conv => whnf
      refine cl_use (fun K h => c_againN Ω M1 nt o x K (a2.un p1 rfl rfl) (hN.un p2) h) trivial ?_
      exact And.intro (fun _ => hK M1 Un.rfl) (fun e => absurd rfl e)
  · obtain ⟨hW, hC, hL, -⟩ := hS.1.ok
    have hn3 := hW.n.2.2.1
    have hcs := hS.2.1
    have ot := hS.1.1
    have hw4 := hS.1.w4
    have ht : t < nt := a1.2.2.2 t ot
    have hnt := a1.1
    -- the class up to its switch
    have cls : ∀ K : Ka, (c = 0 → K (some (vJ (liS (wN (pg M t) w) v g))) M) → (c = 1 → K (some (vJ (drS (pg M t) w (wN (pg M t) w) v g d a))) M) → (c = 2 → K (some (vJ (tuS (wN (pg M t) w) v g))) M) → (¬ c = 0 → ¬ c = 1 → ¬ c = 2 → K (some (vJ (-1000000000000))) M) → CallS Ω true m_WH_force [vR (some (11, 0)), vI x, vI c] M K := by
      intro K k0 k1 k2 kd
      refine call_go (hJL rfl) (Nat.le_of_ble_eq_true rfl) (go_wp ok_WH_force [] 250 _ _ _ _ _ _ ?_)
      conv => whnf
      refine cl_use (fun K h => c_solvedY Ω M nt t w o x v g d b a K a1 hS h) trivial ?_
      conv => whnf
      rw [a1.2.2.1]
      refine cl_use (fun K h => c_textOfH Ω M nt o K a1 h) trivial ?_
      rw [ot]
      refine And.intro (fun e => ?_) (fun z0 => And.intro (fun e => ?_) (fun z1 => And.intro (fun e => ?_) (fun z2 => ?_)))
      · conv => whnf
        refine cl_use (fun K h => c_liftNow Ω M (4 * t + w + 2) _ v g K hn3 hcs.2.1 hcs.2.2.1 (fun i hi => (hcs.2.2.2 i hi).1) h) trivial ?_
        exact k0 e
      · conv => whnf
        refine cl_use (fun K h => c_dragNow Ω M t w (4 * t + w + 2) (pg M t) v g d a K hW hC hL hcs.2.1 hcs.2.2.1 (fun i hi => ⟨(hcs.2.2.2 i hi).1, (hcs.2.2.2 i hi).2.1, (hcs.2.2.2 i hi).2.2.2⟩) h) trivial ?_
        exact k1 e
      · conv => whnf
        refine cl_use (fun K h => c_turnNow Ω M (4 * t + w + 2) _ v g K hn3 hcs.2.1 hcs.2.2.1 (fun i hi => (hcs.2.2.2 i hi).1) h) trivial ?_
        exact k2 e
      · exact kd z0 z1 z2
    have mdl : ∀ M1, Un wC M M1 → Un wX M M1 → ∀ K : Ka, (inR 0 2 c = false → ∀ M2, Un wX M1 M2 → K (some (vJ (-1000000000000))) M2) → (∀ M2, Un wX M1 M2 → pg M2 t = pg M t → MF M2 (wN (pg M t) w) g d b a → mI M2 12 0 71 = nI (4 * t + w) → mI M2 12 0 72 = nI (wN (pg M t) w) → mI M2 12 0 73 = v → inR 0 2 c = true → CallS Ω true m_MD_forceNow [vR (some (12, 0)), vI c] M2 (fun r M3 => ∃ y, r = some (vJ y) ∧ K r M3)) → CallS Ω true m_MD_force [vR (some (12, 0)), vI x, vI c] M1 K := by
      intro M1 p1 p2 K kf kt
      refine call_go (hJL rfl) (Nat.le_of_ble_eq_true rfl) (go_wp ok_MD_force [] 250 _ _ _ _ _ _ ?_)
      conv => whnf
      have hS1 := hS.un p2
      have ep := pg_av p2 wX_tx t
      refine ⟨fun r M' => r = some (vI 1) ∧ Un wX M1 M' ∧ MF M' (wN (pg M t) w) g d b a ∧ mI M' 12 0 71 = nI (4 * t + w) ∧ mI M' 12 0 72 = nI (wN (pg M t) w) ∧ mI M' 12 0 73 = v, c_againY Ω M1 nt t w o x v g d b a _ (a2.un p1 rfl rfl) hS1 (fun M' q0 q1 q2 q3 q4 q5 q6 => ⟨rfl, q1, by rw [ep] at q2; exact q2, q3, by rw [ep] at q4; exact q4, q5⟩), trivial, ?_⟩
      rintro r M2 ⟨rfl, q1, q2, q3, q4, q5⟩
      refine And.intro (fun e => absurd e (by decide)) (fun _ => ?_)
      conv => whnf
      refine cl_use (fun K h => c_MD_in Ω _ c 0 2 K h) trivial ?_
      refine br_bz (fun e => kf e M2 q1) (fun e => ?_)
      conv => whnf
      refine ⟨_, kt M2 q1 ((pg_av q1 wX_tx t).trans ep) q2 q3 q4 q5 e, trivial, ?_⟩
      rintro r M3 ⟨y, rfl, hk⟩
      conv => whnf
      exact hk
    by_cases z0 : c = 0
    · subst z0
      refine turn_scr h (some (vJ (liS (wN (pg M t) w) v g))) ⟨_, rfl⟩ (fun K hK => cls K (fun _ => hK M Un.rfl Un.rfl) (fun e => absurd e (by decide)) (fun e => absurd e (by decide)) (fun z0 z1 z2 => absurd rfl z0)) (fun M1 p1 p2 K hK => mdl M1 p1 p2 K (fun e => absurd e (by decide)) (fun M2 p0 p2' p3 p4 p5 p6 _ => c_MD_flift Ω M2 _ v g _ hn3 p5 p6 (fun i hi => (p3 i hi).1) ⟨_, rfl, hK M2 p0⟩))
    by_cases z1 : c = 1
    · subst z1
      refine turn_scr h (some (vJ (drS (pg M t) w (wN (pg M t) w) v g d a))) ⟨_, rfl⟩ (fun K hK => cls K (fun e => absurd e (by decide)) (fun _ => hK M Un.rfl Un.rfl) (fun e => absurd e (by decide)) (fun z0 z1 z2 => absurd rfl z1)) (fun M1 p1 p2 K hK => mdl M1 p1 p2 K (fun e => absurd e (by decide)) (fun M2 p0 p2' p3 p4 p5 p6 _ => by
        have := c_MD_fdrag Ω M2 t w v g d a (fun r M3 => ∃ y, r = some (vJ y) ∧ K r M3) (by omega) hw4 (by rw [p2']; exact hW) p4 (by rw [p2']; exact p5) p6 (fun i hi => by rw [p2'] at hi; exact ⟨(p3 i hi).1, (p3 i hi).2.1, (p3 i hi).2.2.2⟩) (by rw [p2']; exact ⟨_, rfl, hK M2 p0⟩)
        exact this))
    by_cases z2 : c = 2
    · subst z2
      refine turn_scr h (some (vJ (tuS (wN (pg M t) w) v g))) ⟨_, rfl⟩ (fun K hK => cls K (fun e => absurd e (by decide)) (fun e => absurd e (by decide)) (fun _ => hK M Un.rfl Un.rfl) (fun z0 z1 z2 => absurd rfl z2)) (fun M1 p1 p2 K hK => mdl M1 p1 p2 K (fun e => absurd e (by decide)) (fun M2 p0 p2' p3 p4 p5 p6 _ => c_MD_fturn Ω M2 _ v g _ hn3 p5 p6 (fun i hi => (p3 i hi).1) ⟨_, rfl, hK M2 p0⟩))
    have hno : inR 0 2 c = false := by
      refine inR_n (n := 3) (by decide) (fun j hj e => ?_)
      rcases (show j = 0 ∨ j = 1 ∨ j = 2 by omega) with rfl | rfl | rfl
      · exact z0 e
      · exact z1 e
      · exact z2 e
    refine turn_scr h (some (vJ (-1000000000000))) ⟨_, rfl⟩ (fun K hK => cls K (fun e => absurd e z0) (fun e => absurd e z1) (fun e => absurd e z2) (fun _ _ _ => hK M Un.rfl Un.rfl)) (fun M1 p1 p2 K hK => mdl M1 p1 p2 K (fun _ => hK) (fun M2 p0 p2' p3 p4 p5 p6 e => by rw [hno] at e; cases e))
set_option maxRecDepth 8000 in
theorem t_barred (Ω : Om) (M : Mem) (x : Int32) (h : Inv M) : Turn Ω tyI m_WH_barred m_MD_barred [vI x] M := by
  obtain ⟨nt, o, a1, a2, a3, a4, a5, a6, a7, a8, a9, a10⟩ := id h
  rcases sv_res a1 a6 x with hN | ⟨t, w, v, g, d, b, a, hS⟩
  · refine turn_scr h (some (vI (-1))) ⟨_, rfl⟩ (fun K hK => ?_) (fun M1 p1 p2 K hK => ?_)
    · refine call_go (hJL rfl) (Nat.le_of_ble_eq_true rfl) (go_wp ok_WH_barred [] 250 _ _ _ _ _ _ ?_)
      conv => whnf
      refine cl_use (fun K h => c_solvedN Ω M nt o x K a1 hN h) trivial ?_
      conv => whnf
      rw [a1.2.2.1]
      refine cl_use (fun K h => c_textOfH Ω M nt o K a1 h) trivial ?_
      exact hK M Un.rfl Un.rfl
    · refine call_go (hJL rfl) (Nat.le_of_ble_eq_true rfl) (go_wp ok_MD_barred [] 250 _ _ _ _ _ _ ?_)
      conv => whnf
      refine cl_use (fun K h => c_againN Ω M1 nt o x K (a2.un p1 rfl rfl) (hN.un p2) h) trivial ?_
      exact And.intro (fun e => absurd rfl e) (fun _ => hK M1 Un.rfl)
  · obtain ⟨hW, hC, hL, -⟩ := hS.1.ok
    have hn3 := hW.n.2.2.1
    have hcs := hS.2.1
    have ot := hS.1.1
    have hw4 := hS.1.w4
    have ht : t < nt := a1.2.2.2 t ot
    have hnt := a1.1
    obtain ⟨-, nl, nh, nw, nb, Ls, hX, -⟩ := hS.1
    have hnb : nb ≤ 8 := hX.1.2.2.2.2.1.2.2.2
    generalize hF : fbS Ls nb (vrS (wN (pg M t) w) v (fun i => pg M t 92 (10 * w + i)) (fun i => pg M t 95 (10 * w + i)) g d b a) (wN (pg M t) w) 0 = F
    have hFl : ∀ i k, F = some (i, k) → i < 10 ∧ k < 8 := fun i k e => by
      rw [← hF] at e
      have := fbS_lt e
      omega
    refine turn_scr h (some (vI (match F with | some (i, k) => nI k | none => -2))) ⟨_, rfl⟩ (fun K hK => ?_) (fun M1 p1 p2 K hK => ?_)
    · refine call_go (hJL rfl) (Nat.le_of_ble_eq_true rfl) (go_wp ok_WH_barred [] 250 _ _ _ _ _ _ ?_)
      conv => whnf
      refine cl_use (fun K h => c_solvedY Ω M nt t w o x v g d b a K a1 hS h) trivial ?_
      conv => whnf
      rw [a1.2.2.1]
      refine cl_use (fun K h => c_textOfH Ω M nt o K a1 h) trivial ?_
      rw [ot]
      conv => whnf
      refine ⟨fun r M' => r = some (vI (fcA F)) ∧ Un (wFb t) M M', c_firstBarred Ω M t w (4 * t + w + 2) 60 (4 * t + w) (wN (pg M t) w) nb v (fun i => pg M t 92 (10 * w + i)) (fun i => pg M t 95 (10 * w + i)) g d b a Ls _ hn3 hnb rfl (fun s => by simp [wFb, wBr, nb_d]) hcs.2.1 hcs.2.2.1 hcs.2.2.2 (fun i hi => (hC.2.2.2.2.1 i hi).1) (fun i hi => (hC.2.2.2.2.1 i hi).2.2.2.1) hX.2.1.2.2.2.1 (fun k hk => ⟨(hX.2.2 k hk).1, (hX.2.2 k hk).2.1⟩) (fun M' q => ⟨by rw [hF], q⟩), trivial, ?_⟩
      rintro r M1 ⟨rfl, hU⟩
      have hK := hK M1 (hU.mono (wC_of (mC_Fb t))) (hU.mono (sc_Fb t))
      cases F with
      | none =>
        refine And.intro (fun e => absurd (show (0 : Int32) ≤ -1 from e) (by decide)) (fun _ => hK)
      | some q =>
        obtain ⟨i, k⟩ := q
        obtain ⟨hi, hk⟩ := hFl i k rfl
        refine And.intro (fun _ => ?_) (fun e => absurd (nI_pos' (show 8 * i + k < 2 ^ 31 by omega)) e)
        refine And.intro (show ¬ (8 : Int32) = 0 by decide) ?_
        conv => whnf
        rw [show (8 : Int32) = nI 8 from rfl, show fcA (some (i, k)) = nI (8 * i + k) from rfl, pk_rem (by omega) (by omega) (by omega), show (8 * i + k) % 8 = k by omega]
        exact hK
    · refine call_go (hJL rfl) (Nat.le_of_ble_eq_true rfl) (go_wp ok_MD_barred [] 250 _ _ _ _ _ _ ?_)
      conv => whnf
      have hS1 := hS.un p2
      have ep := pg_av p2 wX_tx t
      refine ⟨fun r M' => r = some (vI 1) ∧ Un wX M1 M' ∧ MF M' (wN (pg M t) w) g d b a ∧ mI M' 12 0 71 = nI (4 * t + w) ∧ mI M' 12 0 72 = nI (wN (pg M t) w) ∧ mI M' 12 0 73 = v ∧ ∀ i, i < wN (pg M t) w → mI M' 118 0 i = pg M t 95 (10 * w + i), c_againY Ω M1 nt t w o x v g d b a _ (a2.un p1 rfl rfl) hS1 (fun M' q0 q1 q2 q3 q4 q5 q6 => ⟨rfl, q1, by rw [ep] at q2; exact q2, q3, by rw [ep] at q4; exact q4, q5, by rw [ep] at q6; exact q6⟩), trivial, ?_⟩
      rintro r M2 ⟨rfl, q1, q2, q3, q4, q5, q6⟩
      have hX2 := hX.un (p2.trans q1) wX_tx
      have ep2 := (pg_av q1 wX_tx t).trans ep
      refine And.intro (fun _ => ?_) (fun e => absurd e (by decide))
      conv => whnf
      refine ⟨fun r M' => r = some (vI (fcB F)) ∧ Un wBm M2 M' ∧ mI M' 12 0 86 = fcI F, c_barNow Ω M2 t w (wN (pg M t) w) nb v (fun i => pg M t 92 (10 * w + i)) (fun i => pg M t 95 (10 * w + i)) g d b a Ls _ (by omega) hw4 hn3 hnb q3 q4 q5 q2 (fun i hi => by rw [pgI (M := M2) (p := t) (f := 92) (a := 10 * w + i) rfl (show 10 * (4 * t + w) + i = 40 * t + (10 * w + i) by omega), ep2]) q6 (by rw [pg1 (M := M2) (f := 97) (p := t) rfl rfl]; exact hX2.1.2.2.2.1) (fun k hk => ⟨(hX2.2.2 k hk).1, (hX2.2.2 k hk).2.2⟩) (fun M' z1 z2 => ⟨by rw [hF], z1, by rw [hF] at z2; exact z2⟩), trivial, ?_⟩
      rintro r M3 ⟨rfl, hU3, h86⟩
      have hK := hK M3 (q1.trans (hU3.mono sc_Bm))
      cases F with
      | none => exact And.intro (fun e => absurd rfl e) (fun _ => hK)
      | some q =>
        obtain ⟨i, k⟩ := q
        obtain ⟨hi, hk⟩ := hFl i k rfl
        refine And.intro (fun _ => ?_) (fun e => absurd e (nI_nm1 (show k < 2 ^ 31 by omega)))
        conv => whnf
        exact hK
set_option maxRecDepth 8000 in
theorem t_where (Ω : Om) (M : Mem) (x : Int32) (h : Inv M) : Turn Ω tyI m_WH_where m_MD_where [vI x] M := by
  obtain ⟨nt, o, a1, a2, a3, a4, a5, a6, a7, a8, a9, a10⟩ := id h
  rcases sv_res a1 a6 x with hN | ⟨t, w, v, g, d, b, a, hS⟩
  · refine turn_scr h (some (vI (-1))) ⟨_, rfl⟩ (fun K hK => ?_) (fun M1 p1 p2 K hK => ?_)
    · refine call_go (hJL rfl) (Nat.le_of_ble_eq_true rfl) (go_wp ok_WH_where [] 250 _ _ _ _ _ _ ?_)
      conv => whnf
      refine cl_use (fun K h => c_solvedN Ω M nt o x K a1 hN h) trivial ?_
      conv => whnf
      rw [a1.2.2.1]
      refine cl_use (fun K h => c_textOfH Ω M nt o K a1 h) trivial ?_
      exact hK M Un.rfl Un.rfl
    · refine call_go (hJL rfl) (Nat.le_of_ble_eq_true rfl) (go_wp ok_MD_where [] 250 _ _ _ _ _ _ ?_)
      conv => whnf
      refine cl_use (fun K h => c_againN Ω M1 nt o x K (a2.un p1 rfl rfl) (hN.un p2) h) trivial ?_
      exact And.intro (fun e => absurd rfl e) (fun _ => hK M1 Un.rfl)
  · obtain ⟨hW, hC, hL, -⟩ := hS.1.ok
    have hn3 := hW.n.2.2.1
    have hcs := hS.2.1
    have ot := hS.1.1
    have hw4 := hS.1.w4
    have ht : t < nt := a1.2.2.2 t ot
    have hnt := a1.1
    obtain ⟨-, nl, nh, nw, nb, Ls, hX, -⟩ := hS.1
    have hnb : nb ≤ 8 := hX.1.2.2.2.2.1.2.2.2
    generalize hF : fbS Ls nb (vrS (wN (pg M t) w) v (fun i => pg M t 92 (10 * w + i)) (fun i => pg M t 95 (10 * w + i)) g d b a) (wN (pg M t) w) 0 = F
    have hFl : ∀ i k, F = some (i, k) → i < 10 ∧ k < 8 := fun i k e => by
      rw [← hF] at e
      have := fbS_lt e
      omega
    refine turn_scr h (some (vI (match F with | some (i, k) => nI i | none => -2))) ⟨_, rfl⟩ (fun K hK => ?_) (fun M1 p1 p2 K hK => ?_)
    · refine call_go (hJL rfl) (Nat.le_of_ble_eq_true rfl) (go_wp ok_WH_where [] 250 _ _ _ _ _ _ ?_)
      conv => whnf
      refine cl_use (fun K h => c_solvedY Ω M nt t w o x v g d b a K a1 hS h) trivial ?_
      conv => whnf
      rw [a1.2.2.1]
      refine cl_use (fun K h => c_textOfH Ω M nt o K a1 h) trivial ?_
      rw [ot]
      conv => whnf
      refine ⟨fun r M' => r = some (vI (fcA F)) ∧ Un (wFb t) M M', c_firstBarred Ω M t w (4 * t + w + 2) 60 (4 * t + w) (wN (pg M t) w) nb v (fun i => pg M t 92 (10 * w + i)) (fun i => pg M t 95 (10 * w + i)) g d b a Ls _ hn3 hnb rfl (fun s => by simp [wFb, wBr, nb_d]) hcs.2.1 hcs.2.2.1 hcs.2.2.2 (fun i hi => (hC.2.2.2.2.1 i hi).1) (fun i hi => (hC.2.2.2.2.1 i hi).2.2.2.1) hX.2.1.2.2.2.1 (fun k hk => ⟨(hX.2.2 k hk).1, (hX.2.2 k hk).2.1⟩) (fun M' q => ⟨by rw [hF], q⟩), trivial, ?_⟩
      rintro r M1 ⟨rfl, hU⟩
      have hK := hK M1 (hU.mono (wC_of (mC_Fb t))) (hU.mono (sc_Fb t))
      cases F with
      | none =>
        refine And.intro (fun e => absurd (show (0 : Int32) ≤ -1 from e) (by decide)) (fun _ => hK)
      | some q =>
        obtain ⟨i, k⟩ := q
        obtain ⟨hi, hk⟩ := hFl i k rfl
        refine And.intro (fun _ => ?_) (fun e => absurd (nI_pos' (show 8 * i + k < 2 ^ 31 by omega)) e)
        refine And.intro (show ¬ (8 : Int32) = 0 by decide) ?_
        conv => whnf
        rw [show (8 : Int32) = nI 8 from rfl, show fcA (some (i, k)) = nI (8 * i + k) from rfl, pk_div (by omega) (by omega) (by omega), show (8 * i + k) / 8 = i by omega]
        exact hK
    · refine call_go (hJL rfl) (Nat.le_of_ble_eq_true rfl) (go_wp ok_MD_where [] 250 _ _ _ _ _ _ ?_)
      conv => whnf
      have hS1 := hS.un p2
      have ep := pg_av p2 wX_tx t
      refine ⟨fun r M' => r = some (vI 1) ∧ Un wX M1 M' ∧ MF M' (wN (pg M t) w) g d b a ∧ mI M' 12 0 71 = nI (4 * t + w) ∧ mI M' 12 0 72 = nI (wN (pg M t) w) ∧ mI M' 12 0 73 = v ∧ ∀ i, i < wN (pg M t) w → mI M' 118 0 i = pg M t 95 (10 * w + i), c_againY Ω M1 nt t w o x v g d b a _ (a2.un p1 rfl rfl) hS1 (fun M' q0 q1 q2 q3 q4 q5 q6 => ⟨rfl, q1, by rw [ep] at q2; exact q2, q3, by rw [ep] at q4; exact q4, q5, by rw [ep] at q6; exact q6⟩), trivial, ?_⟩
      rintro r M2 ⟨rfl, q1, q2, q3, q4, q5, q6⟩
      have hX2 := hX.un (p2.trans q1) wX_tx
      have ep2 := (pg_av q1 wX_tx t).trans ep
      refine And.intro (fun _ => ?_) (fun e => absurd e (by decide))
      conv => whnf
      refine ⟨fun r M' => r = some (vI (fcB F)) ∧ Un wBm M2 M' ∧ mI M' 12 0 86 = fcI F, c_barNow Ω M2 t w (wN (pg M t) w) nb v (fun i => pg M t 92 (10 * w + i)) (fun i => pg M t 95 (10 * w + i)) g d b a Ls _ (by omega) hw4 hn3 hnb q3 q4 q5 q2 (fun i hi => by rw [pgI (M := M2) (p := t) (f := 92) (a := 10 * w + i) rfl (show 10 * (4 * t + w) + i = 40 * t + (10 * w + i) by omega), ep2]) q6 (by rw [pg1 (M := M2) (f := 97) (p := t) rfl rfl]; exact hX2.1.2.2.2.1) (fun k hk => ⟨(hX2.2.2 k hk).1, (hX2.2.2 k hk).2.2⟩) (fun M' z1 z2 => ⟨by rw [hF], z1, by rw [hF] at z2; exact z2⟩), trivial, ?_⟩
      rintro r M3 ⟨rfl, hU3, h86⟩
      have hK := hK M3 (q1.trans (hU3.mono sc_Bm))
      cases F with
      | none => exact And.intro (fun e => absurd rfl e) (fun _ => hK)
      | some q =>
        obtain ⟨i, k⟩ := q
        obtain ⟨hi, hk⟩ := hFl i k rfl
        refine And.intro (fun _ => ?_) (fun e => absurd e (nI_nm1 (show k < 2 ^ 31 by omega)))
        conv => whnf
        rw [h86]
        exact hK
