/-! TURNS, IV: hinge -/
theorem SlC.un2 {w0 : Nat → Nat → Nat → Bool} {M M' : Mem} {t w : Nat} (h : SlC M t w) (hU : Un w0 M M') (hw : Av (cSl (4 * t + w + 2)) w0) (hp : wN (pg M' t) w = wN (pg M t) w) : SlC M' t w := by
  have q1 : ∀ k s, (k = 2 ∨ (23 ≤ k ∧ k ≤ 26)) → w0 k (4 * t + w + 2) s = false := fun k s h => hw _ _ _ (by simp [cSl, nb_d, nl_d]; omega)
  have q2 : ∀ k, (k = 119 ∨ k = 120) → w0 k 0 (4 * t + w) = false := fun k h => hw _ _ _ (by simp [cSl, nb_d, nl_d]; omega)
  have q3 : ∀ k i, (121 ≤ k ∧ k ≤ 124) → i < 10 → w0 k 0 (10 * (4 * t + w) + i) = false := fun k i h hi => hw _ _ _ (by simp [cSl, nb_d, nl_d]; omega)
  rcases h with ⟨a, b, c⟩ | ⟨v, g, d, b, a, ⟨hn, h1⟩, h2, ⟨c1, c2, c3, c4⟩, m1, m2, m3⟩
  · exact Or.inl ⟨(hU.I (q1 _ _ (by omega))).trans a, (hU.I (q2 _ (by omega))).trans b, fun i hi => (hU.J (q1 _ _ (by omega))).trans (c i hi)⟩
  · refine Or.inr ⟨v, g, d, b, a, ?_⟩
    rw [hp]
    refine ⟨⟨hn, h1⟩, h2, ⟨(hU.I (q1 _ _ (by omega))).trans c1, (hU.I (q1 _ _ (by omega))).trans c2, (hU.I (q1 _ _ (by omega))).trans c3, fun i hi => ?_⟩, (hU.I (q2 _ (by omega))).trans m1, (hU.I (q2 _ (by omega))).trans m2, fun i hi => ?_⟩
    · obtain ⟨z1, z2, z3, z4⟩ := c4 i hi
      exact ⟨(hU.J (q1 _ _ (by omega))).trans z1, (hU.J (q1 _ _ (by omega))).trans z2, (hU.J (q1 _ _ (by omega))).trans z3, (hU.J (q1 _ _ (by omega))).trans z4⟩
    · obtain ⟨z1, z2, z3, z4⟩ := m3 i hi
      exact ⟨(hU.J (q3 _ _ (by omega) (by omega))).trans z1, (hU.J (q3 _ _ (by omega) (by omega))).trans z2, (hU.J (q3 _ _ (by omega) (by omega))).trans z3, (hU.J (q3 _ _ (by omega) (by omega))).trans z4⟩
theorem LwOK.cg {T T' : Tx} {k : Nat} (e : ∀ f, f ≠ 83 → T' f = T f) (h : LwOK T k) : LwOK T' k := by
  unfold LwOK at h ⊢
  rw [e 77 (by decide), e 78 (by decide), e 79 (by decide)]
  exact h
theorem WgOK.cg {T T' : Tx} {w : Nat} (e : ∀ f, f ≠ 83 → T' f = T f) (h : WgOK T w) : WgOK T' w := by
  obtain ⟨⟨n, h1, h2, h3, h4⟩, h5, h6, h7, h8, h9⟩ := h
  refine ⟨⟨n, by rw [e 86 (by decide)]; exact h1, h2, h3, fun i hi => ?_⟩, by rw [e 87 (by decide)]; exact h5, by rw [e 88 (by decide)]; exact h6, by rw [e 89 (by decide)]; exact h7, by rw [e 90 (by decide)]; exact h8, by rw [e 90 (by decide), e 91 (by decide)]; exact h9⟩
  obtain ⟨s1, ⟨k, s2, s3, s4⟩, ⟨k', s5, s6, s7⟩, s8, s9⟩ := h4 i hi
  exact ⟨by rw [e 92 (by decide)]; exact s1, ⟨k, s2, by rw [e 93 (by decide)]; exact s3, s4.cg e⟩, ⟨k', s5, by rw [e 94 (by decide)]; exact s6, s7.cg e⟩, by rw [e 95 (by decide)]; exact s8, by rw [e 96 (by decide)]; exact s9⟩
theorem wN.cg {T T' : Tx} {w : Nat} (e : ∀ f, f ≠ 83 → T' f = T f) : wN T' w = wN T w := by unfold wN; rw [e 86 (by decide)]
theorem TxOK.cg {T T' : Tx} {nl nh nw nb : Nat} (e : ∀ f, f ≠ 83 → T' f = T f) (h : TxOK T nl nh nw nb) (h83 : ∀ h, h < 4 → -30 ≤ (T' 83 h).toInt ∧ (T' 83 h).toInt ≤ 30) : TxOK T' nl nh nw nb := by
  obtain ⟨a1, a2, a3, a4, a5, a6, a7, a8, a9⟩ := h
  refine ⟨by rw [e 74 (by decide)]; exact a1, by rw [e 80 (by decide)]; exact a2, by rw [e 84 (by decide)]; exact a3, by rw [e 97 (by decide)]; exact a4, a5, fun k hk => (a6 k hk).cg e, fun k hk => by rw [e 82 (by decide)]; exact a7 k hk, h83, fun w hw => ⟨(a9 w hw).1.cg e, ?_⟩⟩
  rw [wN.cg e, e 93 (by decide), e 94 (by decide)]
  exact (a9 w hw).2
theorem ClL.cg {M : Mem} {t k : Nat} {T T' : Tx} (e : ∀ f, f ≠ 83 → T' f = T f) (h : ClL M t k T) : ClL M t k T' := by
  unfold ClL at h ⊢
  rw [e 77 (by decide), e 78 (by decide), e 79 (by decide)]
  exact h
theorem ClW.cg {M : Mem} {t w : Nat} {T T' : Tx} (e : ∀ f, f ≠ 83 → T' f = T f) (h : ClW M t w T) : ClW M t w T' := by
  unfold ClW at h ⊢
  rw [wN.cg e, e 86 (by decide), e 87 (by decide), e 88 (by decide), e 89 (by decide), e 90 (by decide), e 91 (by decide), e 92 (by decide), e 93 (by decide), e 94 (by decide), e 95 (by decide), e 96 (by decide)]
  exact h
theorem ClTx.cg {M : Mem} {t : Nat} {T T' : Tx} {nl nh nw nb : Nat} (e : ∀ f, f ≠ 83 → T' f = T f) (h : ClTx M t T nl nh nw nb) (h83 : ∀ h, h < 4 → mI M 44 t h = T' 83 h) : ClTx M t T' nl nh nw nb := by
  obtain ⟨a1, a2, a3, a4, a5, a6, a7, a8⟩ := h
  exact ⟨a1, a2, a3, a4, fun k hk => (a5 k hk).cg e, fun k hk => by rw [e 82 (by decide)]; exact a6 k hk, h83, fun w hw => (a8 w hw).cg e⟩
theorem szf_83 {f p a p' a' : Nat} (hf : 74 ≤ f ∧ f ≤ 108) (ha : a' < 4) : ¬ (f = 83 ∧ (0 : Nat) = 0 ∧ szf f * p + a = 4 * p' + a') ∨ (f = 83) := by
  by_cases e : f = 83
  · exact Or.inr e
  · exact Or.inl (fun q => e q.1)
set_option maxRecDepth 8000 in
theorem t_hinge (Ω : Om) (M : Mem) (k x : Int32) (h : Inv M) : Turn Ω tyI m_WH_hinge m_MD_hinge [vI k, vI x] M := by
  obtain ⟨nt, o, a1, a2, a3, a4, a5, a6, a7, a8, a9, a10⟩ := id h
  have hn4 := a1.1
  by_cases hc : ∃ t j, o = some t ∧ (∃ nl nh nw nb Ls, TxC M t nl nh nw nb Ls ∧ j < nh) ∧ k = nI j ∧ inR (-(pg M t 82 j)) (pg M t 82 j) x = true
  · obtain ⟨t, j, rfl, ⟨nl, nh, nw, nb, Ls, ⟨hO, hC, hB⟩, hj⟩, rfl, hx⟩ := hc
    have ht := a1.2.2.2 t rfl
    obtain ⟨hx1, hx2⟩ := inR_t.mp hx
    obtain ⟨q1, q2, q3, q4, ⟨-, l2, -⟩, -, q7, q8, -⟩ := id hO
    have g : mI M 12 0 19 = nI t := a2.2.2.1
    refine ⟨fun r M1 => r = some (vI 1) ∧ M1 = sI M 44 t j x, ?_, ?_⟩
    · refine call_go (hJL rfl) (Nat.le_of_ble_eq_true rfl) (go_wp ok_WH_hinge [] 250 _ _ _ _ _ _ ?_)
      conv => whnf
      rw [a1.2.2.1]
      refine cl_use (fun K h => c_textOfH Ω M nt (some t) K a1 h) trivial ?_
      conv => whnf
      refine And.intro (fun a => absurd a (nI_pos (by omega))) (fun _ => And.intro (fun a => ?_) (fun _ => And.intro (fun _ => ?_) (fun a => absurd (show nI j < (4 : Int32) from nI_lt (b := 4) (by omega) (by decide)) a)))
      · rw [hC.2.1, nI_leI (by omega) (by omega)] at a; omega
      conv => whnf
      refine And.intro (vp_in_nI (by omega) (by decide)) ?_
      rw [nI_clamp (by omega), hC.2.2.2.2.2.1 j hj]
      refine And.intro (fun a => absurd a (Int32.not_lt.mpr hx1)) (fun _ => ?_)
      conv => whnf
      refine And.intro (vp_in_nI (by omega) (by decide)) ?_
      rw [nI_clamp (by omega), hC.2.2.2.2.2.1 j hj]
      refine And.intro (fun _ => ?_) (fun a => absurd hx2 a)
      conv => whnf
      refine And.intro (vp_in_nI (by omega) (by decide)) ?_
      rw [nI_clamp (by omega)]
      exact ⟨Or.inr rfl, rfl, rfl⟩
    · rintro r M1 ⟨rfl, rfl⟩
      refine ⟨⟨_, rfl⟩, fun _ => rfl, ?_⟩
      refine call_go (hJL rfl) (Nat.le_of_ble_eq_true rfl) (go_wp ok_MD_hinge [] 250 _ _ _ _ _ _ ?_)
      conv => whnf
      rw [show mI (sI M 44 t j x) 12 0 19 = nI t from g]
      refine And.intro (fun a => absurd a (nI_nm1 (by omega))) (fun _ => ?_)
      conv => whnf
      rw [show mI (sI M 44 t j x) 12 0 19 = nI t from g]
      refine And.intro (vp_in_nI (by omega) (by decide)) ?_
      rw [nI_clamp (by omega), show mI (sI M 44 t j x) 80 0 t = nI nh from (pg1 (M := M) (f := 80) (p := t) rfl rfl).trans q2]
      refine cl_use (fun K h => c_MD_in Ω _ (nI j) 0 (nI nh - 1) K h) trivial ?_
      rw [inR_y (by omega) hj]
      refine And.intro (fun a => absurd a (by decide)) (fun _ => ?_)
      conv => whnf
      rw [show mI (sI M 44 t j x) 12 0 19 = nI t from g, show (4 : Int32) = nI 4 from rfl, pk_mul, nI_add]
      refine And.intro (vp_in_nI (by omega) (by decide)) ?_
      conv => whnf
      rw [show mI (sI M 44 t j x) 12 0 19 = nI t from g, show (4 : Int32) = nI 4 from rfl, pk_mul, nI_add]
      refine And.intro (vp_in_nI (by omega) (by decide)) ?_
      rw [nI_clamp (by omega), show mI (sI M 44 t j x) 82 0 (4 * t + j) = pg M t 82 j from rfl]
      refine cl_use (fun K h => c_MD_in Ω _ x (-(pg M t 82 j)) (pg M t 82 j) K h) trivial ?_
      rw [hx]
      refine And.intro (fun _ => ?_) (fun a => absurd a (by decide))
      conv => whnf
      rw [show mI (sI M 44 t j x) 12 0 19 = nI t from g, show (4 : Int32) = nI 4 from rfl, pk_mul, nI_add]
      refine And.intro (vp_in_nI (by omega) (by decide)) ?_
      rw [nI_clamp (by omega)]
      have hU : Un (wKF [44, 83] []) M (sI (sI M 44 t j x) 83 0 (4 * t + j) x) := (Un.rfl.pI rfl).pI rfl
      generalize hM2 : sI (sI M 44 t j x) 83 0 (4 * t + j) x = M2 at hU
      have e83 : ∀ s, mI M2 83 0 s = if s = 4 * t + j then x else mI M 83 0 s := fun s => by
        rw [← hM2, mI_sI]
        by_cases e : s = 4 * t + j
        · rw [if_pos ⟨rfl, rfl, e⟩, if_pos e]
        · rw [if_neg (fun q => e q.2.2), if_neg e, mI_sI, if_neg (fun q => absurd q.1 (by decide))]
      have e44 : ∀ i s, mI M2 44 i s = if i = t ∧ s = j then x else mI M 44 i s := fun i s => by
        rw [← hM2, mI_sI, if_neg (fun q => absurd q.1 (by decide)), mI_sI]
        by_cases e : i = t ∧ s = j
        · rw [if_pos ⟨rfl, e.1, e.2⟩, if_pos e]
        · rw [if_neg (fun q => e ⟨q.2.1, q.2.2⟩), if_neg e]
      have epg : ∀ p f, f ≠ 83 → pg M2 p f = pg M p f := fun p f hf => by
        funext a
        unfold pg
        cases hb : (Nat.ble 74 f && Nat.ble f 108) with
        | false => rfl
        | true =>
          show mI M2 f 0 _ = mI M f 0 _
          refine hU.I ?_
          have : f ≠ 44 := by intro q; subst q; cases hb
          simp [wKF, hf, this]
      have epg83 : ∀ p a, pg M2 p 83 a = if 4 * p + a = 4 * t + j then x else pg M p 83 a := fun p a => e83 (4 * p + a)
      clear hM2
      have hb82 := q7 j hj
      have hxb : -30 ≤ x.toInt ∧ x.toInt ≤ 30 := by
        rw [Int32.le_iff_toInt_le] at hx1 hx2
        rw [Int32.toInt_neg, Int.bmod_eq_of_le (by omega) (by omega)] at hx1
        omega
      refine ⟨Or.inr rfl, rfl, ⟨nt, some t, a1.un hU rfl rfl, a2.un hU rfl rfl, ?_, a4.un hU rfl rfl (fun _ => rfl) (fun _ => rfl), a5.un hU (fun _ => rfl) (fun _ => rfl), fun t' ht' => ?_, a7.un hU (fun _ => rfl) (fun _ => rfl) (fun _ => rfl), a8.un hU (fun _ => rfl) (fun _ => rfl), a9.un hU rfl rfl (fun k s hk => ?_), a10.un hU (fun _ => rfl) (fun _ => rfl) (fun _ => rfl) (fun _ => rfl) (fun _ => rfl)⟩, fun s => (hU.I rfl).trans rfl⟩
      · rw [hU.I (k := 11) (s := 2) rfl, hU.I (k := 12) (s := 17) rfl]; exact a3
      · obtain ⟨⟨nl', nh', nw', nb', Ls', hO', hC', hB'⟩, hS'⟩ := a6 t' ht'
        have hC44 := hC'.2.2.2.2.2.2.1
        have b83 := hO'.2.2.2.2.2.2.2.1
        refine ⟨⟨nl', nh', nw', nb', Ls', hO'.cg (epg t') (fun h h4 => ?_), ?_, fun b hb => ⟨(hB' b hb).1, (hB' b hb).2.1.un hU (fun k i s h1 h2 => ?_), (hB' b hb).2.2.un hU (fun k s h1 h2 => ?_)⟩⟩, fun w hw => (hS' w hw).un2 hU (fun k i s q => ?_) (wN.cg (epg t'))⟩
        · rw [epg83]
          split
          · exact hxb
          · exact b83 h h4
        · obtain ⟨c1, c2, c3, c4, c5, c6, c7, c8⟩ := hC'
          refine ⟨(hU.I rfl).trans c1, (hU.I rfl).trans c2, (hU.I rfl).trans c3, (hU.I rfl).trans c4, fun k hk => ((c5 k hk).un hU (fun _ _ => rfl) (fun _ _ => rfl) (fun _ _ => rfl)).cg (epg t'), fun k hk => by rw [epg t' 82 (by decide)]; exact (hU.I rfl).trans (c6 k hk), fun h h4 => ?_, fun w hw => ((c8 w hw).un hU (fun _ _ => rfl) (fun k i s h1 h2 => ?_)).cg (epg t')⟩
          · rw [e44, epg83]
            by_cases e : t' = t ∧ h = j
            · rw [if_pos e, if_pos (by omega)]
            · rw [if_neg e, if_neg (by omega)]; exact hC44 h h4
          · have a1 : k ≠ 44 := by omega
            have a2 : k ≠ 83 := by omega
            simp [wKF, a1, a2]
        · rcases (show k = 13 ∨ k = 14 ∨ k = 15 by omega) with rfl | rfl | rfl <;> rfl
        · have a1 : k ≠ 44 := by omega
          have a2 : k ≠ 83 := by omega
          simp [wKF, a1, a2]
        · exact av_KF (c := cSl (4 * t' + w + 2)) (by simp; exact ⟨fun _ _ => rfl, fun _ _ => rfl⟩) (by simp) k i s q
      · simp [wKF]; omega
  · refine turn_pure h (some (vI 0)) ⟨_, rfl⟩ (fun K hK => ?_) (fun K hK => ?_)
    · refine call_go (hJL rfl) (Nat.le_of_ble_eq_true rfl) (go_wp ok_WH_hinge [] 250 _ _ _ _ _ _ ?_)
      conv => whnf
      rw [a1.2.2.1]
      refine cl_use (fun K h => c_textOfH Ω M nt o K a1 h) trivial ?_
      cases o with
      | none => exact ⟨Or.inl rfl, hK⟩
      | some t =>
        obtain ⟨⟨nl, nh, nw, nb, Ls, hT⟩, -⟩ := a6 t (a1.2.2.2 t rfl)
        obtain ⟨hO, hC, -⟩ := id hT
        have l2 := hO.2.2.2.2.1.2.1
        conv => whnf
        refine And.intro (fun _ => ⟨Or.inl rfl, hK⟩) (fun z1 => And.intro (fun _ => ⟨Or.inl rfl, hK⟩) (fun z2 => ?_))
        rw [hC.2.1] at z2
        rcases pk_ix k (n := nh) (by omega) with q | q | ⟨j, hj, e⟩
        · exact absurd q z1
        · exact absurd q z2
        subst e
        refine And.intro (fun _ => ?_) (fun _ => ⟨Or.inl rfl, hK⟩)
        conv => whnf
        refine And.intro (vp_in_nI (by omega) (by decide)) ?_
        rw [nI_clamp (by omega), hC.2.2.2.2.2.1 j hj]
        refine And.intro (fun _ => ⟨Or.inl rfl, hK⟩) (fun z3 => ?_)
        conv => whnf
        refine And.intro (vp_in_nI (by omega) (by decide)) ?_
        rw [nI_clamp (by omega), hC.2.2.2.2.2.1 j hj]
        refine And.intro (fun z4 => ?_) (fun _ => ⟨Or.inl rfl, hK⟩)
        exact absurd ⟨t, j, rfl, ⟨nl, nh, nw, nb, Ls, hT, hj⟩, rfl, inR_t.mpr ⟨Int32.not_lt.mp z3, z4⟩⟩ hc
    · refine call_go (hJL rfl) (Nat.le_of_ble_eq_true rfl) (go_wp ok_MD_hinge [] 250 _ _ _ _ _ _ ?_)
      conv => whnf
      rw [a2.2.2.1]
      cases o with
      | none => exact And.intro (fun _ => ⟨Or.inl rfl, hK⟩) (fun a => absurd rfl a)
      | some t =>
        have ht := a1.2.2.2 t rfl
        obtain ⟨⟨nl, nh, nw, nb, Ls, hT⟩, -⟩ := a6 t ht
        obtain ⟨hO, hC, -⟩ := id hT
        have l2 := hO.2.2.2.2.1.2.1
        refine And.intro (fun _ => ⟨Or.inl rfl, hK⟩) (fun _ => ?_)
        conv => whnf
        rw [a2.2.2.1, show hI (some t) = nI t from rfl]
        refine And.intro (vp_in_nI (by omega) (by decide)) ?_
        rw [nI_clamp (by omega), (pg1 (M := M) (f := 80) (p := t) rfl rfl).trans hO.2.1]
        refine cl_use (fun K h => c_MD_in Ω _ k 0 (nI nh - 1) K h) trivial ?_
        refine br_bz (fun q1 => ⟨Or.inl rfl, hK⟩) (fun q1 => ?_)
        rcases nI_cases k (n := nh) (by omega) with ⟨j, hj, e⟩ | q
        · subst e
          conv => whnf
          rw [a2.2.2.1, show hI (some t) = nI t from rfl, show (4 : Int32) = nI 4 from rfl, pk_mul, nI_add]
          refine And.intro (vp_in_nI (by omega) (by decide)) ?_
          conv => whnf
          rw [a2.2.2.1, show hI (some t) = nI t from rfl, show (4 : Int32) = nI 4 from rfl, pk_mul, nI_add]
          refine And.intro (vp_in_nI (by omega) (by decide)) ?_
          rw [nI_clamp (by omega), show mI M 82 0 (4 * t + j) = pg M t 82 j from rfl]
          refine cl_use (fun K h => c_MD_in Ω _ x (-(pg M t 82 j)) (pg M t 82 j) K h) trivial ?_
          refine br_bn (fun q2 => ?_) (fun q2 => ⟨Or.inl rfl, hK⟩)
          exact absurd ⟨t, j, rfl, ⟨nl, nh, nw, nb, Ls, hT, hj⟩, rfl, q2⟩ hc
        · rw [inR_n (by omega) q] at q1; cases q1
