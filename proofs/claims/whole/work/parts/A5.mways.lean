/-! BEST, the model's: the twists of a way; a way kept -/
abbrev bL (x v s le : Int32) (k W m : Nat) (r8 r9 r10 r12 r13 r14 r15 r16 r17 : Option Vl) : List (Option Vl) := [some (vR (some (12, 0))), some (vI x), some (vI v), some (vI s), some (vI (nI k)), some (vI le), some (vI (nI W)), some (vI (nI m)), r8, r9, r10, none, r12, r13, r14, r15, r16, r17]
def w118 (k _i _s : Nat) : Bool := Nat.beq k 118
theorem mj_inj {k n j j' : Nat} (h : k < 1024) (hn : n ≤ 10) (hj : j < btC k n) (hj' : j' < btC k n) (hne : j ≠ j') : mj k j ≠ mj k j' := fun e => by
  have h1 := (mj_j h hn hj).2.2
  have h2 := (mj_j h hn hj').2.2
  rw [e] at h1
  exact hne (h1.symm.trans h2)
set_option maxHeartbeats 2000000 in
set_option maxRecDepth 8000 in
theorem mt_loop {Ω : Om} {K : Ka} {M1 : Mem} {w k W way : Nat} {T : Tx} {x v s le : Int32} {r8 r9 r10 r16 r17 : Option Vl} {y12 : Int32} (hW : WgOK T w) (hk : k < 2 ^ wN T w) (h4 : btC k (wN T w) ≤ 4) (hway : way < 625)
    (h118 : ∀ i, i < wN T w → mI M1 118 0 i = T 95 (10 * w + i)) (h133 : ∀ j, j < btC k (wN T w) → mI M1 133 0 j = nI (mj k j))
    (hN : ∀ M2 r13 r15, Un w118 M1 M2 → (∀ i, i < wN T w → mI M2 118 0 i = twD T w k (kF (btC k (wN T w)) way) i) → GoS Ω true m_MD_best K 266 (bL x v s le k W (btC k (wN T w)) r8 r9 r10 (some (vI y12)) r13 (some (vI (bI (kG (loF T w k) (nnF T w k) (btC k (wN T w)) way)))) r15 r16 r17) [] M2 0 0) :
    GoS Ω true m_MD_best K 198 (bL x v s le k W (btC k (wN T w)) r8 r9 r10 (some (vI y12)) (some (vI (nI way))) (some (vI 1)) (some (vI (nI (btC k (wN T w)) - 1))) r16 r17) [] M1 0 0 := by
  obtain ⟨hn1, hn2, hn3, hst⟩ := hW.n
  have hk10 := k_1024 hk hn3
  have lp : ∀ (m' L : Nat) (g : Bool) (M2 : Mem) (z : Int32), m' ≤ btC k (wN T w) → z = nI m' - 1 → L < 625 → Un w118 M1 M2 → (∀ j, j < m' → mI M2 118 0 (mj k j) = sl (ao T w k j)) →
      (∀ M3 r13 r15, Un w118 M1 M3 → (∀ j, j < m' → mI M3 118 0 (mj k j) = tv (ao T w k j) (kF m' L j)) → (∀ i, (∀ j, j < m' → i ≠ mj k j) → mI M3 118 0 i = mI M2 118 0 i) → GoS Ω true m_MD_best K 266 (bL x v s le k W (btC k (wN T w)) r8 r9 r10 (some (vI y12)) r13 (some (vI (bI (g && kG (loF T w k) (nnF T w k) m' L)))) r15 r16 r17) [] M3 0 0) →
      GoS Ω true m_MD_best K 198 (bL x v s le k W (btC k (wN T w)) r8 r9 r10 (some (vI y12)) (some (vI (nI L))) (some (vI (bI g))) (some (vI z)) r16 r17) [] M2 0 0 := by
    intro m'
    induction m' with
    | zero =>
      intro L g M2 z hm' hz hL hU hold hN
      subst hz
      refine go_wp ok_MD_best [266] 250 _ _ _ _ _ _ ?_
      refine And.intro (fun _ => ?_) (fun q => absurd (show nI 0 - 1 < 0 by decide) q)
      have := hN M2 (some (vI (nI L))) (some (vI (nI 0 - 1))) hU (fun j hj => absurd hj (Nat.not_lt_zero _)) (fun i _ => rfl)
      rw [kG, Bool.and_true] at this
      exact this
    | succ m' ih =>
      intro L g M2 z hm' hz hL hU hold hN
      rw [nI_pred] at hz
      subst hz
      have hj : m' < btC k (wN T w) := hm'
      obtain ⟨m1, m2, m3⟩ := mj_j hk10 hn3 hj
      obtain ⟨a1, a2⟩ := ao_ok hW hk hj
      have hdg := (dg_at a1).2.2 (L % 5) (Nat.mod_lt _ (by decide))
      have e133 : mI M2 133 0 m' = nI (mj k m') := (hU.I rfl).trans (h133 m' hj)
      refine go_wp ok_MD_best [198, 258] 250 _ _ _ _ _ _ ?_
      refine And.intro (fun q => absurd q (nI_pos (by omega))) (fun _ => ?_)
      conv => whnf
      refine And.intro (vp_in_nI (by omega) (by decide)) ?_
      rw [nI_clamp (by omega), e133]
      conv => whnf
      refine And.intro (vp_in_nI (by omega) (by decide)) ?_
      rw [nI_clamp (by omega), hold m' (by omega)]
      conv => whnf
      refine And.intro (show ¬ (5 : Int32) = 0 by decide) ?_
      conv => whnf
      refine And.intro (vp_in_nI (by omega) (by decide)) ?_
      rw [nI_clamp (by omega), show (5 : Int32) = nI 5 from rfl, pk_rem (a := L) (d := 5) (by omega) (by decide) (by decide)]
      conv => whnf
      refine And.intro (show ¬ (5 : Int32) = 0 by decide) ?_
      rw [show (5 : Int32) = nI 5 from rfl, pk_div (a := L) (d := 5) (by omega) (by decide) (by decide)]
      have go : ∀ (y : Int32) (M3 : Mem), y = bI (g && inR (-30) 30 (tv (ao T w k m') (L % 5))) → M3 = sI M2 118 0 (mj k m') (tv (ao T w k m') (L % 5)) → GoS Ω true m_MD_best K 258 (bL x v s le k W (btC k (wN T w)) r8 r9 r10 (some (vI y12)) (some (vI (nI (L / 5)))) (some (vI (bI g))) (some (vI (nI m'))) r16 r17) [vI y] M3 0 0 := by
        rintro y M3 rfl rfl
        refine go_wp ok_MD_best [198] 250 _ _ _ _ _ _ ?_
        conv => whnf
        refine ih (L / 5) (g && inR (-30) 30 (tv (ao T w k m') (L % 5))) _ (nI m' + -1) (by omega) (by grind) (by omega) (hU.pI rfl) (fun j hj' => ?_) (fun M4 r13 r15 hU4 hd4 hs4 => ?_)
        · rw [mI_sI, if_neg (fun q => mj_inj hk10 hn3 (j := j) (j' := m') (by omega) hj (by omega) q.2.2)]
          exact hold j (by omega)
        · have := hN M4 r13 r15 hU4 (fun j hj' => ?_) (fun i hi => ?_)
          · rw [show (g && inR (-30) 30 (tv (ao T w k m') (L % 5)) && kG (loF T w k) (nnF T w k) m' (L / 5)) = (g && kG (loF T w k) (nnF T w k) (m' + 1) L) from ?_]
            · exact this
            · rw [kG, hdg.1.2]
              show (g && (decide (loF T w k m' ≤ L % 5) && decide (L % 5 < loF T w k m' + nnF T w k m')) && kG (loF T w k) (nnF T w k) m' (L / 5)) = _
              cases g <;> cases (decide (loF T w k m' ≤ L % 5) && decide (L % 5 < loF T w k m' + nnF T w k m')) <;> cases (kG (loF T w k) (nnF T w k) m' (L / 5)) <;> rfl
          · rw [kF]
            unfold up1
            by_cases e : j = m'
            · rw [if_pos e, e, hs4 _ (fun j2 hj2 => mj_inj hk10 hn3 hj (by omega) (by omega)), mI_eq]
            · rw [if_neg e]
              exact hd4 j (by omega)
          · rw [hs4 i (fun j2 hj2 => hi j2 (by omega)), mI_sI, if_neg (fun q => hi m' (by omega) q.2.2)]
      conv => whnf
      cases g with
      | false =>
        refine And.intro (fun _ => ?_) (fun e => absurd rfl e)
        conv => whnf
        exact go _ _ rfl rfl
      | true =>
        refine And.intro (fun e => absurd e (by decide)) (fun _ => ?_)
        conv => whnf
        refine And.intro (vp_in_nI (by omega) (by decide)) ?_
        conv => whnf
        rw [nI_clamp (by omega), mI_ne (k' := 133) rfl, e133]
        refine And.intro (vp_in_nI (by omega) (by decide)) ?_
        rw [nI_clamp (by omega), mI_eq]
        refine cl_use (fun K h => c_MD_isSlant Ω _ _ K h) trivial ?_
        refine br_bz (fun c => ?_) (fun c => ?_)
        · conv => whnf
          exact go _ _ (by rw [show inR (-30) 30 (tv (ao T w k m') (L % 5)) = false from c]; rfl) rfl
        · conv => whnf
          exact go _ _ (by rw [show inR (-30) 30 (tv (ao T w k m') (L % 5)) = true from c]; rfl) rfl
  refine lp (btC k (wN T w)) way true M1 _ (Nat.le_refl _) rfl hway Un.rfl (fun j hj => ?_) (fun M3 r13 r15 hU hd hs => ?_)
  · rw [h118 _ (mj_j hk10 hn3 hj).1]
    exact (ao_ok hW hk hj).2
  · have := hN M3 r13 r15 hU (fun i hi => ?_)
    · rw [Bool.true_and]; exact this
    · unfold twD
      cases c : bt k i with
      | true =>
        rw [if_pos rfl]
        have h1 := hd (btC k i) (btC_lt hi c)
        have h2 := mj_i hk10 (by omega) c
        unfold ao at h1
        rw [h2] at h1
        exact h1
      | false =>
        rw [if_neg (by decide), hs i (fun j hj e => by
          have := (mj_j hk10 hn3 hj).2.1
          rw [← e, c] at this
          cases this)]
        exact h118 i hi
def w132 (k _i _s : Nat) : Bool := Nat.beq k 132
set_option maxHeartbeats 1000000 in
set_option maxRecDepth 8000 in
theorem mk_loop {Ω : Om} {K : Ka} {M1 : Mem} {w k W : Nat} {T : Tx} {x v s le : Int32} {d : Nat → Nat} {D : Int64} {b : Option (Int64 × (Nat → Int32))} {r8 r9 r10 r12 r13 r14 r15 r16 r17 : Option Vl} (hW : WgOK T w) (hk : k < 2 ^ wN T w) (h4 : btC k (wN T w) ≤ 4)
    (h118 : ∀ i, i < wN T w → mI M1 118 0 i = twD T w k d i) (h133 : ∀ j, j < btC k (wN T w) → mI M1 133 0 j = nI (mj k j)) (h132 : ∀ i, i < 10 → mI M1 132 0 i = bvS k b i)
    (hN : ∀ M2 r17, Un w132 M1 M2 → (∀ i, i < 10 → mI M2 132 0 i = bvS k (some (D, twD T w k d)) i) → GoS Ω true m_MD_best K 380 (bL x v s le k W (btC k (wN T w)) r8 r9 r10 r12 r13 r14 r15 none r17) [] M2 0 0) :
    GoS Ω true m_MD_best K 340 (bL x v s le k W (btC k (wN T w)) r8 r9 r10 r12 r13 r14 r15 none r17) [] M1 0 0 := by
  obtain ⟨hn1, hn2, hn3, hst⟩ := hW.n
  have hk10 := k_1024 hk hn3
  refine go_wp ok_MD_best [343] 250 _ _ _ _ _ _ ?_
  conv => whnf
  refine loopN (btC k (wN T w)) (fun j M2 => Un w132 M1 M2 ∧ ∀ i, i < 10 → mI M2 132 0 i = if bt k i = true ∧ btC k i < j then twD T w k d i else bvS k b i) (fun j M2 => GoS Ω true m_MD_best K 343 (bL x v s le k W (btC k (wN T w)) r8 r9 r10 r12 r13 r14 r15 none (some (vI (nI j)))) [] M2 0 0) ?_ ?_ 0 M1 (Nat.zero_le _) ⟨Un.rfl, fun i hi => ?_⟩
  · rintro j M2 hj ⟨hU, hA⟩ hNN
    obtain ⟨m1, m2, m3⟩ := mj_j hk10 hn3 hj
    have e133 : mI M2 133 0 j = nI (mj k j) := (hU.I rfl).trans (h133 j hj)
    refine go_wp ok_MD_best [343] 250 _ _ _ _ _ _ ?_
    refine And.intro (fun a => ?_) (fun _ => ?_)
    · rw [nI_leI (by omega) (by omega)] at a; omega
    conv => whnf
    refine And.intro (vp_in_nI (by omega) (by decide)) ?_
    rw [nI_clamp (by omega), e133]
    conv => whnf
    refine And.intro (vp_in_nI (by omega) (by decide)) ?_
    rw [nI_clamp (by omega), e133]
    conv => whnf
    refine And.intro (vp_in_nI (by omega) (by decide)) ?_
    rw [nI_clamp (by omega), (hU.I rfl).trans (h118 _ m1)]
    conv => whnf
    refine And.intro (vp_in_nI (by omega) (by decide)) ?_
    rw [nI_clamp (by omega)]
    conv => whnf
    have := hNN (sI M2 132 0 (mj k j) (twD T w k d (mj k j))) ⟨hU.pI rfl, fun i hi => ?_⟩
    · rw [← nI_1] at this
      exact this
    · rw [mI_sI]
      by_cases e : i = mj k j
      · rw [if_pos ⟨rfl, rfl, e⟩, e, if_pos ⟨m2, by omega⟩]
      · rw [if_neg (fun q => e q.2.2), hA i hi]
        by_cases c : bt k i = true ∧ btC k i < j
        · rw [if_pos c, if_pos ⟨c.1, by omega⟩]
        · rw [if_neg c, if_neg (fun q => ?_)]
          refine c ⟨q.1, ?_⟩
          refine Nat.lt_of_le_of_ne (by omega) (fun z => e ?_)
          rw [← z, mj_i hk10 hi q.1]
  · rintro M2 ⟨hU, hA⟩
    refine go_wp ok_MD_best [380] 250 _ _ _ _ _ _ ?_
    refine And.intro (fun _ => ?_) (fun a => absurd (Int32.le_refl _) a)
    refine hN M2 _ hU (fun i hi => ?_)
    rw [hA i hi]
    show _ = if bt k i = true then twD T w k d i else -1000
    cases c : bt k i with
    | true =>
      have : btC k i < btC k (wN T w) := by
        refine btC_lt (Nat.lt_of_not_le (fun q => ?_)) c
        rw [bt_out hk q] at c
        cases c
      rw [if_pos ⟨rfl, this⟩, if_pos rfl]
    | false =>
      rw [if_neg (fun q => by cases q.1), if_neg (by decide)]
      cases b with
      | none => rfl
      | some p =>
        show (if bt k i = true then p.2 i else -1000) = _
        rw [c]; rfl
  · rw [if_neg (fun q => by omega)]
    exact h132 i hi
