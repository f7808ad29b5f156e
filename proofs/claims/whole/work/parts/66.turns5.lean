/-! TURNS, V: run, annul, right -/
def nI_59 : True := trivial
theorem c_isRun (Ω : Om) (M : Mem) (nr : Nat) (x : Int32) (K : Ka) (hn : nr ≤ 60) (h8 : mI M 5 0 8 = nI nr) (h1 : ∀ r, r < nr → x = nI r → mI M 30 0 r = -1 → K (some (vI 1)) M) (h0 : (∀ r, r < nr → x = nI r → ¬ mI M 30 0 r = -1) → K (some (vI 0)) M) : CallS Ω true m_Runs_isRun [vR (some (5, 0)), vI x] M K := by
  refine call_go (hJL rfl) (Nat.le_of_ble_eq_true rfl) (go_wp ok_Runs_isRun [] 250 _ _ _ _ _ _ ?_)
  refine And.intro (fun a => ?_) (fun z1 => And.intro (fun a => ?_) (fun z2 => And.intro (fun a => ?_) (fun z3 => ?_)))
  · exact ⟨Or.inl rfl, h0 (fun r hr e => by subst e; exact absurd a (nI_pos (by omega)))⟩
  · rw [h8] at a
    exact ⟨Or.inl rfl, h0 (fun r hr e => by subst e; rw [nI_leI (by omega) (by omega)] at a; omega)⟩
  · exact ⟨Or.inl rfl, h0 (fun r hr e => by subst e; exact absurd a (nI_ge (b := 60) (by omega) (by decide)))⟩
  · rw [h8] at z2
    rcases pk_ix x (n := nr) (by omega) with q | q | ⟨r, hr, e⟩
    · exact absurd q z1
    · exact absurd q z2
    subst e
    conv => whnf
    refine And.intro (vp_in_nI (by omega) (by decide)) ?_
    rw [nI_clamp (by omega)]
    refine And.intro (fun a => ?_) (fun a => ?_)
    · refine ⟨Or.inl rfl, h0 (fun r' hr' e => ?_)⟩
      rw [nI_eq (by omega) (by omega)] at e
      subst e
      exact a
    · exact ⟨Or.inr rfl, h1 r hr rfl a⟩
set_option maxRecDepth 8000 in
theorem c_MD_isRun (Ω : Om) (M : Mem) (nr : Nat) (x : Int32) (K : Ka) (hn : nr ≤ 60) (h8 : mI M 12 0 97 = nI nr) (h1 : ∀ r, r < nr → x = nI r → mI M 134 0 r = -1 → K (some (vI 1)) M) (h0 : (∀ r, r < nr → x = nI r → ¬ mI M 134 0 r = -1) → K (some (vI 0)) M) : CallS Ω true m_MD_isRun [vR (some (12, 0)), vI x] M K := by
  refine call_go (hJL rfl) (Nat.le_of_ble_eq_true rfl) (go_wp ok_MD_isRun [] 250 _ _ _ _ _ _ ?_)
  conv => whnf
  rw [h8]
  refine cl_use (fun K h => c_MD_in Ω _ x 0 (nI nr - 1) K h) trivial ?_
  rcases nI_cases x (n := nr) (by omega) with ⟨r, hr, e⟩ | q
  · subst e
    rw [inR_y (by omega) hr]
    refine And.intro (fun a => absurd a (by decide)) (fun _ => ?_)
    conv => whnf
    refine And.intro (vp_in_nI (by omega) (by decide)) ?_
    rw [nI_clamp (by omega)]
    refine And.intro (fun a => ?_) (fun a => ?_)
    · refine ⟨Or.inl rfl, h0 (fun r' hr' e => ?_)⟩
      rw [nI_eq (by omega) (by omega)] at e
      subst e
      exact a
    · exact ⟨Or.inr rfl, h1 r hr rfl a⟩
  · rw [inR_n (by omega) q]
    exact And.intro (fun _ => ⟨Or.inl rfl, h0 (fun r hr e => absurd e (q r hr))⟩) (fun a => absurd rfl a)
theorem c_addRun (Ω : Om) (M : Mem) (nr w : Nat) (v s lift wall : Int32) (K : Ka) (hn : nr < 60) (h8 : mI M 5 0 8 = nI nr) (hK : K (some (vI (nI nr))) (sI (sI (sI (sI (sI (sI (sI M 30 0 nr (-1)) 31 0 nr (nI w)) 32 0 nr v) 33 0 nr s) 34 0 nr lift) 35 0 nr wall) 5 0 8 (nI (nr + 1)))) : CallS Ω true m_Runs_addRun [vR (some (5, 0)), vI (nI w), vI v, vI s, vI lift, vI wall] M K := by
  refine call_go (hJL rfl) (Nat.le_of_ble_eq_true rfl) (go_wp ok_Runs_addRun [] 250 _ _ _ _ _ _ ?_)
  refine And.intro (fun _ => ?_) (fun a => ?_)
  · conv => whnf
    rw [show mI M 5 0 8 = nI nr from h8]
    refine And.intro (vp_in_nI (by omega) (by decide)) ?_
    rw [nI_clamp (by omega)]
    conv => whnf
    rw [show mI (sI M 30 0 nr (-1)) 5 0 8 = nI nr from h8]
    refine And.intro (vp_in_nI (by omega) (by decide)) ?_
    rw [nI_clamp (by omega)]
    conv => whnf
    rw [show mI (sI (sI M 30 0 nr (-1)) 31 0 nr (nI w)) 5 0 8 = nI nr from h8]
    refine And.intro (vp_in_nI (by omega) (by decide)) ?_
    rw [nI_clamp (by omega)]
    conv => whnf
    rw [show mI (sI (sI (sI M 30 0 nr (-1)) 31 0 nr (nI w)) 32 0 nr v) 5 0 8 = nI nr from h8]
    refine And.intro (vp_in_nI (by omega) (by decide)) ?_
    rw [nI_clamp (by omega)]
    conv => whnf
    rw [show mI (sI (sI (sI (sI M 30 0 nr (-1)) 31 0 nr (nI w)) 32 0 nr v) 33 0 nr s) 5 0 8 = nI nr from h8]
    refine And.intro (vp_in_nI (by omega) (by decide)) ?_
    rw [nI_clamp (by omega)]
    conv => whnf
    rw [show mI (sI (sI (sI (sI (sI M 30 0 nr (-1)) 31 0 nr (nI w)) 32 0 nr v) 33 0 nr s) 34 0 nr lift) 5 0 8 = nI nr from h8]
    refine And.intro (vp_in_nI (by omega) (by decide)) ?_
    rw [nI_clamp (by omega)]
    conv => whnf
    rw [show mI (sI (sI (sI (sI (sI (sI M 30 0 nr (-1)) 31 0 nr (nI w)) 32 0 nr v) 33 0 nr s) 34 0 nr lift) 35 0 nr wall) 5 0 8 = nI nr from h8, nI_1, mI_sI, if_pos ⟨rfl, rfl, rfl⟩, nI_pred]
    exact hK
  · rw [h8] at a
    exact absurd (show nI nr < (60 : Int32) from nI_lt (b := 60) hn (by decide)) a
theorem mr_run (Ω : Om) (M1 : Mem) (nr w : Nat) (v s lift wall : Int32) (K : Ka) (hn : nr < 60) (h97 : mI M1 12 0 97 = nI nr) (hK : ∀ M2, Un (wKF [134, 135, 136, 137, 138, 139] [(12, 97)]) M1 M2 → (mI M2 12 0 97 = nI (nr + 1) ∧ (∀ j, mI M2 134 0 j = if j = nr then -1 else mI M1 134 0 j) ∧ (∀ j, mI M2 135 0 j = if j = nr then nI w else mI M1 135 0 j) ∧ (∀ j, mI M2 136 0 j = if j = nr then v else mI M1 136 0 j) ∧ (∀ j, mI M2 137 0 j = if j = nr then s else mI M1 137 0 j) ∧ (∀ j, mI M2 138 0 j = if j = nr then lift else mI M1 138 0 j) ∧ (∀ j, mI M2 139 0 j = if j = nr then wall else mI M1 139 0 j)) → K (some (vI (nI nr))) M2) : GoS Ω true m_MD_run K 60 [some (vR (some (12, 0))), some (vI (nI w)), some (vI v), some (vI s), some (vI lift), some (vI wall)] [] M1 0 0 := by
  refine go_wp ok_MD_run [] 250 _ _ _ _ _ _ ?_
  conv => whnf
  rw [show mI M1 12 0 97 = nI nr from h97]
  refine And.intro (vp_in_nI (by omega) (by decide)) ?_
  rw [nI_clamp (by omega)]
  conv => whnf
  rw [show mI (sI M1 134 0 nr (-1)) 12 0 97 = nI nr from h97]
  refine And.intro (vp_in_nI (by omega) (by decide)) ?_
  rw [nI_clamp (by omega)]
  conv => whnf
  rw [show mI (sI (sI M1 134 0 nr (-1)) 135 0 nr (nI w)) 12 0 97 = nI nr from h97]
  refine And.intro (vp_in_nI (by omega) (by decide)) ?_
  rw [nI_clamp (by omega)]
  conv => whnf
  rw [show mI (sI (sI (sI M1 134 0 nr (-1)) 135 0 nr (nI w)) 136 0 nr v) 12 0 97 = nI nr from h97]
  refine And.intro (vp_in_nI (by omega) (by decide)) ?_
  rw [nI_clamp (by omega)]
  conv => whnf
  rw [show mI (sI (sI (sI (sI M1 134 0 nr (-1)) 135 0 nr (nI w)) 136 0 nr v) 137 0 nr s) 12 0 97 = nI nr from h97]
  refine And.intro (vp_in_nI (by omega) (by decide)) ?_
  rw [nI_clamp (by omega)]
  conv => whnf
  rw [show mI (sI (sI (sI (sI (sI M1 134 0 nr (-1)) 135 0 nr (nI w)) 136 0 nr v) 137 0 nr s) 138 0 nr lift) 12 0 97 = nI nr from h97]
  refine And.intro (vp_in_nI (by omega) (by decide)) ?_
  rw [nI_clamp (by omega)]
  conv => whnf
  rw [show mI (sI (sI (sI (sI (sI (sI M1 134 0 nr (-1)) 135 0 nr (nI w)) 136 0 nr v) 137 0 nr s) 138 0 nr lift) 139 0 nr wall) 12 0 97 = nI nr from h97, nI_1, mI_sI, if_pos ⟨rfl, rfl, rfl⟩, nI_pred]
  have hif : ∀ (k : Nat) (N : Mem) (y : Int32) (j : Nat), mI (sI N k 0 nr y) k 0 j = if j = nr then y else mI N k 0 j := fun k N y j => by
    rw [mI_sI]
    by_cases e : j = nr
    · rw [if_pos ⟨rfl, rfl, e⟩, if_pos e]
    · rw [if_neg (fun q => e q.2.2), if_neg e]
  have hot : ∀ (k k' : Nat) (N : Mem) (y : Int32) (s j : Nat), k' ≠ k → mI (sI N k 0 s y) k' 0 j = mI N k' 0 j := fun k k' N y s j hk => by rw [mI_sI, if_neg (fun q => hk q.1)]
  refine hK _ (((((((Un.rfl.pI rfl).pI rfl).pI rfl).pI rfl).pI rfl).pI rfl).pI rfl) ⟨?_, fun j => ?_, fun j => ?_, fun j => ?_, fun j => ?_, fun j => ?_, fun j => ?_⟩
  · rw [mI_sI, if_pos ⟨rfl, rfl, rfl⟩]
  · rw [hot _ _ _ _ _ _ (by decide), hot _ _ _ _ _ _ (by decide), hot _ _ _ _ _ _ (by decide), hot _ _ _ _ _ _ (by decide), hot _ _ _ _ _ _ (by decide), hot _ _ _ _ _ _ (by decide), hif]
  · rw [hot _ _ _ _ _ _ (by decide), hot _ _ _ _ _ _ (by decide), hot _ _ _ _ _ _ (by decide), hot _ _ _ _ _ _ (by decide), hot _ _ _ _ _ _ (by decide), hif, hot _ _ _ _ _ _ (by decide)]
  · rw [hot _ _ _ _ _ _ (by decide), hot _ _ _ _ _ _ (by decide), hot _ _ _ _ _ _ (by decide), hot _ _ _ _ _ _ (by decide), hif, hot _ _ _ _ _ _ (by decide), hot _ _ _ _ _ _ (by decide)]
  · rw [hot _ _ _ _ _ _ (by decide), hot _ _ _ _ _ _ (by decide), hot _ _ _ _ _ _ (by decide), hif, hot _ _ _ _ _ _ (by decide), hot _ _ _ _ _ _ (by decide), hot _ _ _ _ _ _ (by decide)]
  · rw [hot _ _ _ _ _ _ (by decide), hot _ _ _ _ _ _ (by decide), hif, hot _ _ _ _ _ _ (by decide), hot _ _ _ _ _ _ (by decide), hot _ _ _ _ _ _ (by decide), hot _ _ _ _ _ _ (by decide)]
  · rw [hot _ _ _ _ _ _ (by decide), hif, hot _ _ _ _ _ _ (by decide), hot _ _ _ _ _ _ (by decide), hot _ _ _ _ _ _ (by decide), hot _ _ _ _ _ _ (by decide), hot _ _ _ _ _ _ (by decide)]
set_option maxRecDepth 8000 in
theorem t_run (Ω : Om) (M : Mem) (x v s lift wall : Int32) (h : Inv M) : Turn Ω tyI m_WH_run m_MD_run [vI x, vI v, vI s, vI lift, vI wall] M := by
  obtain ⟨nt, o, a1, a2, a3, a4, a5, a6, a7, a8, ⟨nr, hr, d1, d2, d3⟩, a10⟩ := id h
  by_cases hc : (∃ w, w < 4 ∧ x = nI w) ∧ inR 1 40 v = true ∧ inR (-30) 30 s = true ∧ inR (-1000000) 1000000 lift = true ∧ inR 0 500 wall = true ∧ nr < 60
  · obtain ⟨⟨w, hw, rfl⟩, hv, hs, hl, hwl, hlt⟩ := hc
    obtain ⟨l1, l2⟩ := inR_t.mp hl
    obtain ⟨w1, w2⟩ := inR_t.mp hwl
    obtain ⟨v1, v2⟩ := inR_t.mp hv
    obtain ⟨s1, s2⟩ := inR_t.mp hs
    refine ⟨fun r M1 => r = some (vI (nI nr)) ∧ M1 = sI (sI (sI (sI (sI (sI (sI M 30 0 nr (-1)) 31 0 nr (nI w)) 32 0 nr v) 33 0 nr s) 34 0 nr lift) 35 0 nr wall) 5 0 8 (nI (nr + 1)), ?_, ?_⟩
    · refine call_go (hJL rfl) (Nat.le_of_ble_eq_true rfl) (go_wp ok_WH_run [] 250 _ _ _ _ _ _ ?_)
      refine And.intro (fun a => absurd a (nI_pos (by omega))) (fun _ => And.intro (fun a => absurd a (nI_ge (b := 4) (by omega) (by decide))) (fun _ => ?_))
      conv => whnf
      refine cl_use (fun K h => c_WH_isSpeed Ω _ v K h) trivial ?_
      rw [hv]
      refine And.intro (fun a => absurd a (by decide)) (fun _ => ?_)
      conv => whnf
      refine cl_use (fun K h => c_WH_isSlant Ω _ s K h) trivial ?_
      rw [hs]
      refine And.intro (fun _ => ?_) (fun a => absurd a (by decide))
      refine And.intro (fun a => absurd a (Int32.not_lt.mpr l1)) (fun _ => And.intro (fun a => absurd a (Int32.not_lt.mpr l2)) (fun _ => And.intro (fun a => absurd a (Int32.not_lt.mpr w1)) (fun _ => And.intro (fun _ => ?_) (fun a => absurd w2 a))))
      conv => whnf
      refine cl_use (fun K h => c_addRun Ω M nr w v s lift wall K hlt d1 h) trivial ?_
      exact ⟨rfl, rfl⟩
    · rintro r M1 ⟨rfl, hM1⟩
      have hU1 : Un (wKF [30, 31, 32, 33, 34, 35] [(5, 8)]) M M1 := by rw [hM1]; exact ((((((Un.rfl.pI rfl).pI rfl).pI rfl).pI rfl).pI rfl).pI rfl).pI rfl
      have f : mI M1 5 0 8 = nI (nr + 1) ∧ (∀ j, mI M1 30 0 j = if j = nr then -1 else mI M 30 0 j) ∧ (∀ j, mI M1 31 0 j = if j = nr then nI w else mI M 31 0 j) ∧ (∀ j, mI M1 32 0 j = if j = nr then v else mI M 32 0 j) ∧ (∀ j, mI M1 33 0 j = if j = nr then s else mI M 33 0 j) ∧ (∀ j, mI M1 34 0 j = if j = nr then lift else mI M 34 0 j) ∧ (∀ j, mI M1 35 0 j = if j = nr then wall else mI M 35 0 j) := by
        rw [hM1]
        simp [mI_sI]
      clear hM1
      refine ⟨⟨_, rfl⟩, fun _ => hU1.I rfl, ?_⟩
      have e97 : mI M1 12 0 97 = nI nr := (hU1.I rfl).trans d2
      refine call_go (hJL rfl) (Nat.le_of_ble_eq_true rfl) (go_wp ok_MD_run [60] 250 _ _ _ _ _ _ ?_)
      conv => whnf
      rw [e97]
      refine And.intro (fun a => ?_) (fun _ => ?_)
      · rw [show (60 : Int32) = nI 60 from rfl, nI_eq (by omega) (by omega)] at a; omega
      conv => whnf
      refine cl_use (fun K h => c_MD_in Ω _ (nI w) 0 3 K h) trivial ?_
      rw [show inR 0 3 (nI w) = true from inR_y (n := 4) (by omega) hw]
      refine And.intro (fun a => absurd a (by decide)) (fun _ => ?_)
      conv => whnf
      refine cl_use (fun K h => c_MD_isSpeed Ω _ v K h) trivial ?_
      rw [hv]
      refine And.intro (fun a => absurd a (by decide)) (fun _ => ?_)
      conv => whnf
      refine cl_use (fun K h => c_MD_isSlant Ω _ s K h) trivial ?_
      rw [hs]
      refine And.intro (fun a => absurd a (by decide)) (fun _ => ?_)
      conv => whnf
      refine cl_use (fun K h => c_MD_in Ω _ wall 0 500 K h) trivial ?_
      rw [hwl]
      refine And.intro (fun a => absurd a (by decide)) (fun _ => ?_)
      conv => whnf
      refine cl_use (fun K h => c_MD_in Ω _ lift (-1000000) 1000000 K h) trivial ?_
      rw [hl]
      refine And.intro (fun _ => ?_) (fun a => absurd a (by decide))
      conv => whnf
      refine mr_run Ω M1 nr w v s lift wall _ hlt e97 (fun M2 hU2 g => ?_)
      refine ⟨rfl, ?_, fun _ => hU2.I rfl⟩
      have hU : Un (wKF [30, 31, 32, 33, 34, 35, 134, 135, 136, 137, 138, 139] [(5, 8), (12, 97)]) M M2 := by
        refine Un.trans (hU1.mono fun k i s q => ?_) (hU2.mono fun k i s q => ?_)
        · simp [wKF, nb_d] at q ⊢; omega
        · simp [wKF, nb_d] at q ⊢; omega
      obtain ⟨f0, f1, f2, f3, f4, f5, f6⟩ := f
      obtain ⟨g0, g1, g2, g3, g4, g5, g6⟩ := g
      refine ⟨nt, o, a1.un hU rfl rfl, a2.un hU rfl rfl, ?_, a4.un hU rfl rfl (fun _ => rfl) (fun _ => rfl), a5.un hU (fun _ => rfl) (fun _ => rfl), Inv.text a6 hU ?_ ?_, a7.un hU (fun _ => rfl) (fun _ => rfl) (fun _ => rfl), a8.un hU (fun _ => rfl) (fun _ => rfl), ⟨nr + 1, by omega, (hU2.I rfl).trans f0, g0, fun r hr' => ?_⟩, a10.un hU (fun _ => rfl) (fun _ => rfl) (fun _ => rfl) (fun _ => rfl) (fun _ => rfl)⟩
      · rw [hU.I (k := 11) (s := 2) rfl, hU.I (k := 12) (s := 17) rfl]; exact a3
      · intro k hk i s
        simp only [List.mem_cons, List.not_mem_nil, or_false] at hk
        rcases hk with rfl | rfl | rfl | rfl | rfl | rfl | rfl | rfl | rfl | rfl | rfl | rfl <;> exact ⟨rfl, fun _ => rfl⟩
      · intro q hq i
        simp only [List.mem_cons, List.not_mem_nil, or_false] at hq
        rcases hq with rfl | rfl <;> exact ⟨rfl, fun _ => rfl⟩
      · unfold RnR
        rw [hU2.I (k := 30) rfl, hU2.I (k := 31) rfl, hU2.I (k := 32) rfl, hU2.I (k := 33) rfl, hU2.I (k := 34) rfl, hU2.I (k := 35) rfl, f1, f2, f3, f4, f5, f6, g1, g2, g3, g4, g5, g6, hU1.I (k := 134) rfl, hU1.I (k := 135) rfl, hU1.I (k := 136) rfl, hU1.I (k := 137) rfl, hU1.I (k := 138) rfl, hU1.I (k := 139) rfl]
        by_cases e : r = nr
        · simp only [if_pos e]
          rw [Int32.le_iff_toInt_le] at l1 l2 w1 w2 v1 v2 s1 s2
          refine ⟨trivial, Or.inr ⟨trivial, trivial, trivial, trivial, trivial, trivial, ⟨w, hw, rfl⟩, ⟨v1, v2⟩, ⟨s1, s2⟩, ⟨l1, l2⟩, w1, w2⟩⟩
        · simp only [if_neg e]
          exact d3 r (by omega)
  · refine turn_pure h (some (vI (-1))) ⟨_, rfl⟩ (fun K hK => ?_) (fun K hK => ?_)
    · refine call_go (hJL rfl) (Nat.le_of_ble_eq_true rfl) (go_wp ok_WH_run [] 250 _ _ _ _ _ _ ?_)
      refine And.intro (fun _ => hK) (fun z1 => And.intro (fun _ => hK) (fun z2 => ?_))
      conv => whnf
      refine cl_use (fun K h => c_WH_isSpeed Ω _ v K h) trivial ?_
      refine br_bz (fun _ => hK) (fun q1 => ?_)
      conv => whnf
      refine cl_use (fun K h => c_WH_isSlant Ω _ s K h) trivial ?_
      refine br_bn (fun q2 => ?_) (fun _ => hK)
      refine And.intro (fun _ => hK) (fun z3 => And.intro (fun _ => hK) (fun z4 => And.intro (fun _ => hK) (fun z5 => And.intro (fun z6 => ?_) (fun _ => hK))))
      conv => whnf
      have hxw : ∃ w, w < 4 ∧ x = nI w := by
        rcases pk_ix x (n := 4) (by decide) with q | q | q
        · exact absurd q z1
        · exact absurd q z2
        · exact q
      have hfull : nr = 60 := by
        refine Decidable.byContradiction (fun e => hc ⟨hxw, q1, q2, inR_t.mpr ⟨Int32.not_lt.mp z3, Int32.not_lt.mp z4⟩, inR_t.mpr ⟨Int32.not_lt.mp z5, z6⟩, by omega⟩)
      refine cl_use (r := some (vI (-1))) (M1 := M) (fun K h => ?_) trivial hK
      refine call_go (hJL rfl) (Nat.le_of_ble_eq_true rfl) (go_wp ok_Runs_addRun [] 250 _ _ _ _ _ _ ?_)
      refine And.intro (fun a => ?_) (fun _ => h)
      rw [d1, hfull] at a
      exact absurd a (by decide)
    · refine call_go (hJL rfl) (Nat.le_of_ble_eq_true rfl) (go_wp ok_MD_run [] 250 _ _ _ _ _ _ ?_)
      conv => whnf
      rw [d2]
      refine And.intro (fun _ => hK) (fun z0 => ?_)
      have hlt : nr < 60 := by
        refine Decidable.byContradiction (fun e => z0 ?_)
        rw [show nr = 60 by omega]; rfl
      conv => whnf
      refine cl_use (fun K h => c_MD_in Ω _ x 0 3 K h) trivial ?_
      refine br_bz (fun _ => hK) (fun q0 => ?_)
      conv => whnf
      refine cl_use (fun K h => c_MD_isSpeed Ω _ v K h) trivial ?_
      refine br_bz (fun _ => hK) (fun q1 => ?_)
      conv => whnf
      refine cl_use (fun K h => c_MD_isSlant Ω _ s K h) trivial ?_
      refine br_bz (fun _ => hK) (fun q2 => ?_)
      conv => whnf
      refine cl_use (fun K h => c_MD_in Ω _ wall 0 500 K h) trivial ?_
      refine br_bz (fun _ => hK) (fun q3 => ?_)
      conv => whnf
      refine cl_use (fun K h => c_MD_in Ω _ lift (-1000000) 1000000 K h) trivial ?_
      refine br_bn (fun q4 => ?_) (fun _ => hK)
      refine absurd ⟨?_, q1, q2, q4, q3, hlt⟩ hc
      rcases nI_cases x (n := 4) (by decide) with q | q
      · exact q
      · rw [show inR 0 3 x = false from inR_n (n := 4) (by decide) q] at q0; cases q0
