/-! NEXT, the model's -/
set_option maxRecDepth 8000 in
theorem c_flies4 (Ω : Om) (M : Mem) (t w nl nh nw nb : Nat) (Ls : Nat → List Lt) (v s : Int32) (K : Ka) (ht : t < 4) (hw4 : w < 4) (hX : TxC M t nl nh nw nb Ls)
    (h0 : ¬ w < nw → K (some (vI 0)) M)
    (h1 : w < nw → ∀ M', Un wQm M M' → Un wX M M' → rnR (evR (pg M t) w v s zI) z0 = -2 → K (some (vI 0)) M')
    (h2 : w < nw → ∀ M', Un wQm M M' → Un wX M M' → ¬ rnR (evR (pg M t) w v s zI) z0 = -2 → mI M' 12 0 72 = nI (wN (pg M t) w) → mI M' 12 0 73 = v → (∀ i, i < wN (pg M t) w → mJ M' 113 0 i = rnG (evR (pg M t) w v s zI) z0 i) → K (some (vI 1)) M') :
    CallS Ω true m_MD_flies [vR (some (12, 0)), vI (nI t), vI (nI w), vI v, vI s] M K := by
  have l3 := hX.1.2.2.2.2.1.2.2.1
  refine call_go (hJL rfl) (Nat.le_of_ble_eq_true rfl) (go_wp ok_MD_flies [] 250 _ _ _ _ _ _ ?_)
  conv => whnf
  refine And.intro (vp_in_nI (by omega) (by decide)) ?_
  rw [nI_clamp (by omega), (pg1 (M := M) (f := 84) (p := t) rfl rfl).trans hX.1.2.2.1]
  refine And.intro (fun a => ?_) (fun a => ?_)
  · rw [nI_ltI (by omega) (by omega)] at a
    obtain ⟨hW, hC, hL⟩ := hX.w a
    conv => whnf
    rw [show (4 : Int32) = nI 4 from rfl, pk_mul, nI_add]
    obtain ⟨K0, c0, -, c1⟩ := mr4 Ω M t w v s 0 zI ht hw4 hW (Or.inl rfl) (hxS0 _) (fun M' => Un wQm M M' ∧ Un wX M M' ∧ (¬ rnR (evR (pg M t) w v s zI) z0 = -2 → mI M' 12 0 72 = nI (wN (pg M t) w) ∧ mI M' 12 0 73 = v ∧ ∀ i, i < wN (pg M t) w → mJ M' 113 0 i = rnG (evR (pg M t) w v s zI) z0 i)) (fun M' q1 q2 q3 q4 q5 q6 => ⟨q1, q2, fun z => ⟨q5, q6, fun i hi => (q3 z i hi).1⟩⟩)
    refine ⟨K0, c0, trivial, ?_⟩
    intro r M1 hr
    obtain ⟨rfl, K1, c2, -, c3⟩ := c1 r M1 hr
    conv => whnf
    refine ⟨K1, c2, trivial, ?_⟩
    intro r M2 hr
    obtain ⟨rfl, K2, c4, -, c5⟩ := c3 r M2 hr
    conv => whnf
    refine ⟨K2, c4, trivial, ?_⟩
    intro r M3 hr
    obtain ⟨rfl, q1, q2, q3⟩ := c5 r M3 hr
    refine And.intro (fun z => ?_) (fun z => ?_)
    · exact ⟨Or.inl rfl, h1 a M3 q1 q2 z⟩
    · obtain ⟨q4, q5, q6⟩ := q3 z
      exact ⟨Or.inr rfl, h2 a M3 q1 q2 z q4 q5 q6⟩
  · rw [nI_ltI (by omega) (by omega)] at a
    exact ⟨Or.inl rfl, h0 a⟩
set_option maxRecDepth 8000 in
theorem mn_sp (Ω : Om) (M : Mem) (nt w : Nat) (inb : Nat → Bool) (T : Nat → Tx) (nwf : Nat → Nat) (v s y pl : Int32) (be : Int64) (K : Ka) (hn4 : nt ≤ 4) (hw4 : w < 4) (hX : TxF M nt T nwf) (h18 : mI M 12 0 18 = nI nt) (hO : ∀ k, k < nt → mI M 140 0 k = bI (inb k)) (hv : 1 ≤ v.toInt ∧ v.toInt ≤ 40)
    (hN : ∀ (M' : Mem) (y9 y11 : Int64) (r14 r15 : Option Vl), Un wX M M' → (∀ s, mI M' 140 0 s = mI M 140 0 s) → (1 ≤ (spX (fO nt inb T nwf w v s) nt).1 → y9 = (spX (fO nt inb T nwf w v s) nt).2.1 ∧ y11 = (spX (fO nt inb T nwf w v s) nt).2.2) → GoS Ω true m_MD_next K 190 [some (vR (some (12, 0))), some (vI (nI w)), some (vI y), some (vI pl), some (vJ be), none, some (vI v), some (vI s), some (vI (nI (spX (fO nt inb T nwf w v s) nt).1)), some (vJ y9), none, some (vJ y11), none, some (vI (nI nt)), r14, r15] [] M' 0 0) (r14 r15 : Option Vl) :
    GoS Ω true m_MD_next K 104 [some (vR (some (12, 0))), some (vI (nI w)), some (vI y), some (vI pl), some (vJ be), none, some (vI v), some (vI s), some (vI 0), some (vJ 0), none, some (vJ 0), none, some (vI 0), r14, r15] [] M 0 0 := by
  generalize hf : fO nt inb T nwf w v s = f at hN
  refine loopN nt (fun j M1 => Un wX M M1 ∧ ∀ s, mI M1 140 0 s = mI M 140 0 s) (fun j M1 => ∀ (y9 y11 : Int64) (r14 r15 : Option Vl), (1 ≤ (spX f j).1 → y9 = (spX f j).2.1 ∧ y11 = (spX f j).2.2) → GoS Ω true m_MD_next K 104 [some (vR (some (12, 0))), some (vI (nI w)), some (vI y), some (vI pl), some (vJ be), none, some (vI v), some (vI s), some (vI (nI (spX f j).1)), some (vJ y9), none, some (vJ y11), none, some (vI (nI j)), r14, r15] [] M1 0 0) ?_ ?_ 0 M (Nat.zero_le _) ⟨Un.rfl, fun _ => rfl⟩ 0 0 r14 r15 (fun h => absurd (show 1 ≤ 0 from h) (by decide))
  · rintro j M1 hj ⟨hU, h140⟩ hN y9 y11 r14 r15 hy
    have hle := spX_le f j
    rw [spX] at hN
    have skip : f j = none → ∀ (M2 : Mem) (r14 r15 : Option Vl), Un wX M M2 → (∀ s, mI M2 140 0 s = mI M 140 0 s) → GoS Ω true m_MD_next K 184 [some (vR (some (12, 0))), some (vI (nI w)), some (vI y), some (vI pl), some (vJ be), none, some (vI v), some (vI s), some (vI (nI (spX f j).1)), some (vJ y9), none, some (vJ y11), none, some (vI (nI j)), r14, r15] [] M2 0 0 := by
      intro hz M2 r14 r15 hU2 h2
      rw [hz, spY] at hN
      refine go_wp ok_MD_next [104] 250 _ _ _ _ _ _ ?_
      conv => whnf
      have := hN M2 ⟨hU2, h2⟩ y9 y11 r14 r15 hy
      rw [← nI_1 j] at this
      exact this
    refine go_wp ok_MD_next [147, 184] 250 _ _ _ _ _ _ ?_
    refine And.intro (fun a => ?_) (fun _ => ?_)
    · rw [(hU.I (k := 12) (s := 18) rfl).trans h18, nI_leI (by omega) (by omega)] at a; omega
    conv => whnf
    refine And.intro (vp_in_nI (by omega) (by decide)) ?_
    rw [nI_clamp (by omega), (h140 j).trans (hO j hj)]
    refine br_bz (fun c => ?_) (fun c => ?_)
    · exact skip (by rw [← hf, fO, if_neg (fun q => by rw [q.2] at c; cases c)]) M1 _ _ hU h140
    obtain ⟨nl, nh, nb, Ls, hT, ep⟩ := (hX.un hU) j hj
    have ef : f j = liO (T j) (nwf j) w v s := by rw [← hf, fO, if_pos ⟨hj, c⟩]
    conv => whnf
    have hT4 : TxC M1 j nl nh (nwf j) nb Ls := hT
    refine ⟨fun q M' => (q = some (vI 0) ∧ Un wX M M' ∧ (∀ s, mI M' 140 0 s = mI M 140 0 s) ∧ f j = none) ∨ (q = some (vI 1) ∧ Un wX M M' ∧ (∀ s, mI M' 140 0 s = mI M 140 0 s) ∧ w < nwf j ∧ ¬ rnR (evR (T j) w v s zI) z0 = -2 ∧ mI M' 12 0 72 = nI (wN (T j) w) ∧ mI M' 12 0 73 = v ∧ ∀ i, i < wN (T j) w → mJ M' 113 0 i = rnG (evR (T j) w v s zI) z0 i), c_flies4 Ω M1 j w nl nh (nwf j) nb Ls v s _ (by omega) hw4 hT (fun a => Or.inl ⟨rfl, hU, h140, ?_⟩) (fun a M' q1 q2 z => Or.inl ⟨rfl, hU.trans q2, fun s => (q1.I rfl).trans (h140 s), ?_⟩) (fun a M' q1 q2 z q3 q4 q5 => Or.inr ⟨rfl, hU.trans q2, fun s => (q1.I rfl).trans (h140 s), a, ?_⟩), trivial, ?_⟩
    · rw [ef, liO, if_neg (fun q => a q.1)]
    · rw [ep] at z; rw [ef, liO, if_neg (fun q => q.2 z)]
    · rw [ep] at z q3 q5; exact ⟨z, q3, q4, q5⟩
    rintro q M2 (⟨rfl, hU2, h2, hz⟩ | ⟨rfl, hU2, h2, hw, hz, q3, q4, q5⟩)
    · refine And.intro (fun e => absurd rfl e) (fun _ => ?_)
      conv => whnf
      exact skip hz M2 _ _ hU2 h2
    · refine And.intro (fun _ => ?_) (fun e => absurd e (by decide))
      have ef : f j = some (rL (T j) w v s zI) := by rw [ef, liO, if_pos ⟨hw, hz⟩]
      have hn3 := (hT.w hw).1.n.2.2.1
      rw [ep] at hn3
      conv => whnf
      refine cl_use (fun K h => c_MD_flift Ω M2 _ v _ K hn3 q3 q4 q5 h) trivial ?_
      rw [← rL_yes hz]
      rw [ef, spY] at hN
      generalize rL (T j) w v s zI = L at hN
      generalize spX f j = p at hN hy hle
      have fin : ∀ (z6 z8 : Int64), z6 = (if p.1 = 0 then L else if L < p.2.1 then L else p.2.1) → z8 = (if p.1 = 0 then L else if p.2.2 < L then L else p.2.2) → GoS Ω true m_MD_next K 181 [some (vR (some (12, 0))), some (vI (nI w)), some (vI y), some (vI pl), some (vJ be), none, some (vI v), some (vI s), some (vI (nI p.1)), some (vJ z6), none, some (vJ z8), none, some (vI (nI j)), some (vJ L), none] [] M2 0 0 := by
        intro z6 z8 e6 e8
        refine go_wp ok_MD_next [104] 250 _ _ _ _ _ _ ?_
        conv => whnf
        have := hN M2 ⟨hU2, h2⟩ z6 z8 (some (vJ L)) none (fun _ => ⟨e6, e8⟩)
        rw [← nI_1 j, ← nI_1 p.1] at this
        exact this
      have two : ∀ z6 : Int64, z6 = (if p.1 = 0 then L else if L < p.2.1 then L else p.2.1) → GoS Ω true m_MD_next K 164 [some (vR (some (12, 0))), some (vI (nI w)), some (vI y), some (vI pl), some (vJ be), none, some (vI v), some (vI s), some (vI (nI p.1)), some (vJ z6), none, some (vJ y11), none, some (vI (nI j)), some (vJ L), none] [] M2 0 0 := by
        intro z6 e6
        refine go_wp ok_MD_next [181] 250 _ _ _ _ _ _ ?_
        by_cases hp : p.1 = 0
        · rw [hp]
          refine And.intro (fun _ => ?_) (fun q => absurd (show nI 0 = 0 from rfl) q)
          conv => whnf
          have := fin z6 L e6 (if_pos hp).symm
          rw [hp] at this
          exact this
        · have hp2 : ¬ nI p.1 = 0 := fun q => hp (by rw [show (0 : Int32) = nI 0 from rfl, nI_eq (by omega) (by omega)] at q; exact q)
          obtain ⟨-, rfl⟩ := hy (by omega)
          refine And.intro (fun q => absurd q hp2) (fun _ => ?_)
          conv => whnf
          refine And.intro (fun e => ?_) (fun e => ?_)
          · have e := (lg_cmp_le _ _).mp e
            exact fin z6 _ e6 (by rw [if_neg hp, if_neg (Int64.not_lt.mpr e)])
          · have e := Int64.not_le.mp (fun q => e ((lg_cmp_le _ _).mpr q))
            conv => whnf
            exact fin z6 _ e6 (by rw [if_neg hp, if_pos e])
      have one : GoS Ω true m_MD_next K 147 [some (vR (some (12, 0))), some (vI (nI w)), some (vI y), some (vI pl), some (vJ be), none, some (vI v), some (vI s), some (vI (nI p.1)), some (vJ y9), none, some (vJ y11), none, some (vI (nI j)), some (vJ L), none] [] M2 0 0 := by
        refine go_wp ok_MD_next [164] 250 _ _ _ _ _ _ ?_
        by_cases hp : p.1 = 0
        · rw [hp]
          refine And.intro (fun _ => ?_) (fun q => absurd (show nI 0 = 0 from rfl) q)
          conv => whnf
          have := two L (if_pos hp).symm
          rw [hp] at this
          exact this
        · have hp2 : ¬ nI p.1 = 0 := fun q => hp (by rw [show (0 : Int32) = nI 0 from rfl, nI_eq (by omega) (by omega)] at q; exact q)
          obtain ⟨rfl, -⟩ := hy (by omega)
          refine And.intro (fun q => absurd q hp2) (fun _ => ?_)
          conv => whnf
          refine And.intro (fun e => ?_) (fun e => ?_)
          · have e := (lg_cmp_ge _ _).mp e
            exact two _ (by rw [if_neg hp, if_neg (Int64.not_lt.mpr e)])
          · have e := Int64.not_le.mp (fun q => e ((lg_cmp_ge _ _).mpr q))
            conv => whnf
            exact two _ (by rw [if_neg hp, if_pos e])
      exact one
  · rintro M1 ⟨hU, h140⟩ y9 y11 r14 r15 hy
    refine go_wp ok_MD_next [190] 250 _ _ _ _ _ _ ?_
    refine And.intro (fun _ => ?_) (fun a => ?_)
    · exact hN M1 y9 y11 r14 r15 hU h140 hy
    · rw [(hU.I (k := 12) (s := 18) rfl).trans h18] at a; exact absurd (Int32.le_refl _) a
