/-! TURNS: best -/
def wZ (k i s : Nat) : Bool := wX k i s || (Nat.beq k 22 || Nat.beq k 132)
theorem wZ_x : ∀ k i s, wZ k i s = false → wX k i s = false := fun k i s h => (Bool.or_eq_false_iff.mp h).1
theorem wZ_22 : ∀ k i s, wZ k i s = false → ¬ k = 22 ∧ ¬ k = 132 := fun k i s h => by
  have := (Bool.or_eq_false_iff.mp h).2
  simp [nb_d] at this
  exact this
theorem wZ_141 {M M1 : Mem} (hU : Un wZ M M1) : ∀ s, mI M1 141 0 s = mI M 141 0 s := fun s => hU.I rfl
theorem wZ_tx : Av cTx wZ := fun k i s q => by
  have h1 : cAll k i s = true := by unfold cAll; rw [q]; rfl
  unfold wZ wX
  rw [h1]
  cases e : (Nat.beq k 22 || Nat.beq k 132) with
  | false => rfl
  | true =>
    simp [nb_d] at e
    simp [cTx, nb_d, nl_d] at q
    omega
theorem Inv.bst {M M' : Mem} (h : Inv M) (hU : Un wZ M M') (hc : Bst M') : Inv M' := by
  obtain ⟨nt, o, a1, a2, a3, a4, a5, a6, a7, a8, a9, a10⟩ := h
  have ep : ∀ t', pg M' t' = pg M t' := fun t' => pg_av hU wZ_tx t'
  refine ⟨nt, o, a1.un hU rfl rfl, a2.un hU rfl rfl, ?_, a4.un hU rfl rfl (fun s => rfl) (fun s => rfl), a5.un hU (fun s => rfl) (fun s => rfl), fun t' ht => ?_, a7.un hU (fun s => rfl) (fun s => rfl) (fun s => rfl), hc, a9.un hU rfl rfl (fun k s h => ?_), a10.un hU (fun s => rfl) (fun s => rfl) (fun s => rfl) (fun s => rfl) (fun s => rfl)⟩
  · rw [hU.I (k := 11) (i := 0) (s := 2) rfl, hU.I (k := 12) (i := 0) (s := 17) rfl]; exact a3
  · obtain ⟨⟨nl, nh, nw, nb, Ls, b1⟩, b2⟩ := a6 t' ht
    refine ⟨⟨nl, nh, nw, nb, Ls, b1.un hU wZ_tx⟩, fun w' hw' => ?_⟩
    refine (b2 w' hw').un hU (fun k i s q => ?_) (ep t')
    have h1 : cAll k i s = true := cSl_all q
    unfold wZ wX
    rw [h1]
    cases e : (Nat.beq k 22 || Nat.beq k 132) with
    | false => rfl
    | true =>
      simp [nb_d] at e
      simp [cSl, nb_d, nl_d] at q
      omega
  · rcases (show k = 30 ∨ k = 31 ∨ k = 32 ∨ k = 33 ∨ k = 34 ∨ k = 35 ∨ k = 134 ∨ k = 135 ∨ k = 136 ∨ k = 137 ∨ k = 138 ∨ k = 139 by omega) with rfl | rfl | rfl | rfl | rfl | rfl | rfl | rfl | rfl | rfl | rfl | rfl <;> rfl
theorem sz_Sr (t : Nat) : ∀ k i s, wZ k i s = false → wSr t k i s = false := by
  intro k i s h
  have hx := wZ_x k i s h
  obtain ⟨h22, h132⟩ := wZ_22 k i s h
  have h1 := sc_So k i s hx
  have h2 := sc_Fb t k i s hx
  have h3 : wFd k i s = false := by
    cases e : wFd k i s with
    | false => rfl
    | true =>
      simp [wFd, nb_d] at e
      rcases (show k = 22 ∨ (k = 1 ∧ s = 6) ∨ (k = 1 ∧ s = 7) by omega) with e | ⟨rfl, rfl⟩ | ⟨rfl, rfl⟩
      · exact absurd e h22
      · cases hx
      · cases hx
  have h4 : wTd k i s = false := by
    cases e : wTd k i s with
    | false => rfl
    | true =>
      simp [wTd, nb_d, nl_d] at e
      rcases (show k = 18 ∨ k = 19 ∨ k = 20 ∨ k = 21 ∨ (k = 1 ∧ s = 5) by omega) with rfl | rfl | rfl | rfl | ⟨rfl, rfl⟩ <;> cases hx
  unfold wSr wJg
  rw [h1, h2, h3, h4]
  rfl
theorem sz_Mb : ∀ k i s, wZ k i s = false → wMb k i s = false := by
  intro k i s h
  have hx := wZ_x k i s h
  obtain ⟨h22, h132⟩ := wZ_22 k i s h
  have h1 : wQm k i s = false := by unfold wQm; rw [sc_Rm k i s hx, sc_St k i s hx]; rfl
  have h2 := sc_Bm k i s hx
  have h3 : (Nat.beq k 132 || Nat.beq k 133) = false := by
    cases e : (Nat.beq k 132 || Nat.beq k 133) with
    | false => rfl
    | true =>
      simp [nb_d] at e
      rcases e with e | rfl
      · exact absurd e h132
      · cases hx
  unfold wMb
  rw [h1, h2, h3]
  rfl
theorem p5_le {m : Nat} (h : m ≤ 4) : 5 ^ m ≤ 625 := Nat.pow_le_pow_right (n := 5) (by decide) h
set_option maxHeartbeats 2000000 in
set_option maxRecDepth 8000 in
theorem c_MD_best (Ω : Om) (M : Mem) (nt : Nat) (o : Option Nat) (x v s le : Int32) (t w k nl nh nw nb : Nat) (Ls : Nat → List Lt) (K : Ka) (a2 : HdM M nt o) (ht : t < nt) (hY : RwY M o x t w) (hX : TxC M t nl nh nw nb Ls) (hv : inR 1 40 v = true) (hs : inR (-30) 30 s = true) (hk : k < 2 ^ wN (pg M t) w) (h4 : btC k (wN (pg M t) w) ≤ 4)
    (hK : ∀ M', Un wMb M M' → (∀ i, i < 10 → mI M' 132 0 i = bvS k (bsW (pg M t) w v s (pg M t 83) Ls nb le k (bsN (pg M t) w k)) i) → K (some (vJ (bsA (bsW (pg M t) w v s (pg M t 83) Ls nb le k (bsN (pg M t) w k))))) M') :
    CallS Ω true m_MD_best [vR (some (12, 0)), vI x, vI v, vI s, vI (nI k), vI le] M K := by
  have hnt := a2.1
  have hw4 := hY.w4
  have hW := hY.ok.1
  have hml := @mb_loop Ω K M o x v s le t w k nl nh nw nb Ls hY (by omega) hX hk h4
  rw [kgW_all hW hk] at hml
  have hml := hml hK
  clear hK
  generalize hT : pg M t = T at *
  obtain ⟨hn1, hn2, hn3, hst⟩ := hW.n
  have hk10 := k_1024 hk hn3
  have e86 : ∀ M', Un wMb M M' → mI M' 86 0 (4 * t + w) = nI (wN T w) := fun M' hU => (hU.I (wMb_tx _ _ _ rfl)).trans ((pgI (M := M) (p := t) (f := 86) (a := w) rfl rfl).trans (by rw [hT]; exact hn1))
  have hbits : mb (nI k) 10 = nI (btC k (wN T w)) := by
    rw [mb_c hk10 10 (by omega), show btC k 10 = btC k (wN T w + (10 - wN T w)) by rw [show wN T w + (10 - wN T w) = 10 by omega], btC_out hk]
  refine call_go (hJL rfl) (Nat.le_of_ble_eq_true rfl) (go_wp ok_MD_best [65] 250 _ _ _ _ _ _ ?_)
  conv => whnf
  refine cl_use (fun K h => c_MD_rowY Ω M nt t w o x K a2 hY h) trivial ?_
  refine And.intro (fun a => absurd a (nI_nm1 (by omega))) (fun _ => ?_)
  conv => whnf
  refine cl_use (fun K h => c_MD_isSpeed Ω _ v K h) trivial ?_
  rw [hv]
  refine And.intro (fun a => absurd a (by decide)) (fun _ => ?_)
  conv => whnf
  refine cl_use (fun K h => c_MD_isSlant Ω _ s K h) trivial ?_
  rw [hs]
  refine And.intro (fun a => absurd a (by decide)) (fun _ => ?_)
  conv => whnf
  refine And.intro (fun a => absurd a (nI_pos (n := k) (by omega))) (fun _ => ?_)
  conv => whnf
  refine And.intro (vp_in_nI (by omega) (by decide)) ?_
  rw [nI_clamp (by omega), e86 M Un.rfl]
  refine And.intro (fun a => ?_) (fun _ => ?_)
  · have a : nI (2 ^ wN T w) ≤ nI k := by
      have := sh_n hn3
      rw [← this]; exact a
    have h2 : 2 ^ wN T w ≤ 1024 := Nat.pow_le_pow_right (n := 2) (by decide) hn3
    rw [nI_leI (by omega) (by omega)] at a
    omega
  conv => whnf
  refine cl_use (fun K h => c_MD_bits Ω M (nI k) K h) trivial ?_
  rw [hbits]
  refine And.intro (fun _ => ?_) (fun a => absurd (show nI (btC k (wN T w)) ≤ 4 from nI_le (b := 4) h4 (by decide)) a)
  conv => whnf
  -- the members
  refine loopN (wN T w) (fun i M1 => Un wMb M M1 ∧ ∀ i', i' < i → bt k i' = true → mI M1 133 0 (btC k i') = nI i') (fun i M1 => GoS Ω true m_MD_best K 65 [some (vR (some (12, 0))), some (vI x), some (vI v), some (vI s), some (vI (nI k)), some (vI le), some (vI (nI (4 * t + w))), some (vI (nI (btC k i))), some (vI (nI i)), none, none, none, none, none, none, none, none, none] [] M1 0 0) ?_ ?_ 0 M (Nat.zero_le _) ⟨Un.rfl, fun i' h => absurd h (Nat.not_lt_zero _)⟩
  · rintro i M1 hi ⟨hU, hA⟩ hN
    have hb := bt_i hk10 (show i < 10 by omega)
    refine go_wp ok_MD_best [65] 250 _ _ _ _ _ _ ?_
    conv => whnf
    refine And.intro (vp_in_nI (by omega) (by decide)) ?_
    rw [nI_clamp (by omega), e86 M1 hU]
    refine And.intro (fun a => ?_) (fun _ => ?_)
    · rw [nI_leI (by omega) (by omega)] at a; omega
    refine And.intro (fun a => ?_) (fun a => ?_)
    · have e : bt k i = true := by
        cases e : bt k i with
        | true => rfl
        | false => rw [e] at hb; exact absurd hb a
      have hlt := btC_lt hi e
      conv => whnf
      refine And.intro (vp_in_nI (by omega) (by decide)) ?_
      rw [nI_clamp (by omega)]
      conv => whnf
      have := hN (sI M1 133 0 (btC k i) (nI i)) ⟨hU.pI rfl, fun i' h' hb' => ?_⟩
      · rw [btC_s e, ← nI_1, ← nI_1] at this
        exact this
      · rw [mI_sI]
        rcases Nat.lt_succ_iff_lt_or_eq.mp h' with q | q
        · rw [if_neg (fun z => by have := btC_lt q hb'; omega)]
          exact hA i' q hb'
        · rw [q, if_pos ⟨rfl, rfl, rfl⟩]
    · have e : bt k i = false := by
        cases e : bt k i with
        | false => rfl
        | true =>
          rw [e] at hb
          have q : (1 : Int32) = 0 := hb.symm.trans a
          exact absurd q (by decide)
      conv => whnf
      have := hN M1 ⟨hU, fun i' h' hb' => ?_⟩
      · rw [btC_n e, ← nI_1] at this
        exact this
      · rcases Nat.lt_succ_iff_lt_or_eq.mp h' with q | q
        · exact hA i' q hb'
        · rw [q, e] at hb'; cases hb'
  rintro M1 ⟨hU1, hA1⟩
  have h133 : ∀ j, j < btC k (wN T w) → mI M1 133 0 j = nI (mj k j) := fun j hj => by
    obtain ⟨m1, m2, m3⟩ := mj_j hk10 hn3 hj
    have := hA1 _ m1 m2
    rw [m3] at this
    exact this
  clear hA1
  refine go_wp ok_MD_best [111] 250 _ _ _ _ _ _ ?_
  conv => whnf
  refine And.intro (vp_in_nI (by omega) (by decide)) ?_
  rw [nI_clamp (by omega), e86 M1 hU1]
  refine And.intro (fun _ => ?_) (fun a => absurd (Int32.le_refl _) a)
  conv => whnf
  refine loopN 10 (fun i M2 => Un wMb M M2 ∧ (∀ j, j < btC k (wN T w) → mI M2 133 0 j = nI (mj k j)) ∧ ∀ i', i' < i → mI M2 132 0 i' = -1000) (fun i M2 => GoS Ω true m_MD_best K 111 [some (vR (some (12, 0))), some (vI x), some (vI v), some (vI s), some (vI (nI k)), some (vI le), some (vI (nI (4 * t + w))), some (vI (nI (btC k (wN T w)))), some (vI (nI i)), none, none, none, none, none, none, none, none, none] [] M2 0 0) ?_ ?_ 0 M1 (Nat.zero_le _) ⟨hU1, h133, fun i' h => absurd h (Nat.not_lt_zero _)⟩
  · rintro i M2 hi ⟨hU, hB, hA⟩ hN
    refine go_wp ok_MD_best [111] 250 _ _ _ _ _ _ ?_
    refine And.intro (fun a => absurd a (nI_ge (b := 10) (by omega) (by decide))) (fun _ => ?_)
    conv => whnf
    refine And.intro (vp_in_nI (by omega) (by decide)) ?_
    rw [nI_clamp (by omega)]
    conv => whnf
    have := hN (sI M2 132 0 i (-1000)) ⟨hU.pI rfl, fun j hj => by rw [mI_ne rfl]; exact hB j hj, fun i' h' => ?_⟩
    · rw [← nI_1] at this
      exact this
    · rw [mI_sI]
      by_cases e : i' = i
      · rw [if_pos ⟨rfl, rfl, e⟩]
      · rw [if_neg (fun q => e q.2.2)]; exact hA i' (by omega)
  rintro M2 ⟨hU2, h133, h132⟩
  refine go_wp ok_MD_best [140] 250 _ _ _ _ _ _ ?_
  refine And.intro (fun _ => ?_) (fun a => absurd (Int32.le_refl _) a)
  conv => whnf
  have h5m := p5_le h4
  refine upN (btC k (wN T w)) (fun i => GoS Ω true m_MD_best K 140 [some (vR (some (12, 0))), some (vI x), some (vI v), some (vI s), some (vI (nI k)), some (vI le), some (vI (nI (4 * t + w))), some (vI (nI (btC k (wN T w)))), some (vI (nI (5 ^ i))), some (vI (nI i)), none, none, none, none, none, none, none, none] [] M2 0 0) ?_ ?_ 0 (Nat.zero_le _)
  · intro i hi hN
    refine go_wp ok_MD_best [140] 250 _ _ _ _ _ _ ?_
    refine And.intro (fun a => ?_) (fun _ => ?_)
    · rw [nI_leI (by omega) (by omega)] at a; omega
    conv => whnf
    rw [Nat.pow_succ, ← pk_mul, ← nI_1 i] at hN
    exact hN
  refine go_wp ok_MD_best [168] 250 _ _ _ _ _ _ ?_
  refine And.intro (fun _ => ?_) (fun a => absurd (Int32.le_refl _) a)
  conv => whnf
  exact hml (5 ^ btC k (wN T w)) 0 M2 0 none none none none none (by omega) hU2 (fun p e => by cases e) h132 h133
