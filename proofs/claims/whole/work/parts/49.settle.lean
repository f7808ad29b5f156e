/-! THE CLASS'S ROUND, III: the round and settling -/
theorem ch_f {E : Ev} {g : Nat → Int64} : ∀ {n : Nat}, chS E g n = false → ∀ i, i < n → nxS E g i = g i := by
  intro n
  induction n with
  | zero => intro _ i h; exact absurd h (Nat.not_lt_zero _)
  | succ n ih =>
    intro h i hi
    rw [chS, Bool.or_eq_false_iff] at h
    by_cases e : i = n
    · subst e
      simpa using h.2
    · exact ih h.1 i (by omega)
theorem nx_step {x y : Int64} : (x + y = x) ↔ y = 0 := by
  constructor
  · intro h; grind
  · intro h; rw [h]; grind
/-- the flow of the solver -/
def CF (M : Mem) (n : Nat) (g d b a : Nat → Int64) : Prop := ∀ i, i < n → mJ M 23 0 i = g i ∧ mJ M 24 0 i = d i ∧ mJ M 25 0 i = b i ∧ mJ M 26 0 i = a i
theorem c_goRound (Ω : Om) (M : Mem) (t : Nat) (E : Ev) (g : Nat → Int64) (K : Ka) (hE : CE M t E) (hO : EvOK E) (hg : GB (eN E) g) (hG : ∀ i, i < eN E → mJ M 23 0 i = g i)
    (hK : ∀ M', Un wRd M M' → CF M' (eN E) (nxS E g) (dnS E g) (bnS E g) (anS E g) → K (some (vI (bI (chS E g (eN E))))) M') : CallS Ω true m_Solver_goRound [vR (some (6, 0))] M K := by
  obtain ⟨hWg, hh, hh21, hH⟩ := hO
  obtain ⟨hn1, hn2, hn3, hst⟩ := hWg.n
  have hn3 : eN E ≤ 10 := hn3
  obtain ⟨a1, a2, a3, a4, a5, a6, a7, a8, a9, a10⟩ := id hE
  have hby : (14549535 : Int64) * (mI M 10 (4 * t + eW E) 6).toInt64 = eY E := by rw [a8.2.1]; rfl
  have hsti : (1000 : Int64) * (mI M 10 (4 * t + eW E) 7).toInt64 = 1000 * (eT E 88 (eW E)).toInt64 := by rw [a8.2.2.1]
  have hYne := eY_ne hWg
  -- behind the three: the loop over strips
  have fin : ∀ M1 : Mem, Un wRd M M1 → (∀ i, i < eN E → mJ M1 23 0 i = g i ∧ mJ M1 24 0 i = dnS E g i ∧ mJ M1 25 0 i = bnS E g i) → ∀ r3 r4 r5 r6 : Option Vl, GoS Ω true m_Solver_goRound K 75 [some (vR (some (6, 0))), some (vI (bI (chS E g 0))), some (vI (nI 0)), r3, r4, r5, r6] [] M1 0 0 := by
    intro M1 hU1 hF1
    refine loopN (eN E) (fun i M2 => Un wRd M M2 ∧ (∀ i', i' < eN E → mJ M2 24 0 i' = dnS E g i' ∧ mJ M2 25 0 i' = bnS E g i') ∧ (∀ i', i' < i → mJ M2 23 0 i' = nxS E g i' ∧ mJ M2 26 0 i' = anS E g i') ∧ ∀ i', i ≤ i' → i' < eN E → mJ M2 23 0 i' = g i')
      (fun i M2 => ∀ r3 r4 r5 r6 : Option Vl, GoS Ω true m_Solver_goRound K 75 [some (vR (some (6, 0))), some (vI (bI (chS E g i))), some (vI (nI i)), r3, r4, r5, r6] [] M2 0 0) ?_ ?_ 0 M1 (Nat.zero_le _) ⟨hU1, fun i h => ⟨(hF1 i h).2.1, (hF1 i h).2.2⟩, fun i' h => absurd h (Nat.not_lt_zero _), fun i' _ h => (hF1 i' h).1⟩
    · rintro i M2 hi ⟨hU, hDB, hA, hR⟩ hN r3 r4 r5 r6
      obtain ⟨b1, b2, b3, b4, b5, b6, b7, b8, b9, b10⟩ := hE.un hU
      have hw := b8.2.2.2.2.1 i hi
      refine go_wp ok_Solver_goRound [75] 250 _ _ _ _ _ _ ?_
      refine And.intro (fun a => ?_) (fun _ => ?_)
      · rw [b4, nI_leI (by omega) (by omega)] at a; omega
      conv => whnf
      refine And.intro (vp_in_nI (by omega) (by decide)) ?_
      conv => whnf
      refine And.intro (vp_in_nI (by omega) (by decide)) ?_
      rw [nI_clamp (by omega), b6 i hi, (hDB i hi).1]
      conv => whnf
      rw [show rR true M2 6 0 7 = some (10, 4 * t + eW E) from b2]
      conv => whnf
      refine And.intro (vp_in_nI (by omega) (by decide)) ?_
      rw [nI_clamp (by omega), (hDB i hi).2, b8.2.2.2.1]
      refine And.intro (show ¬ (10 : Int64) = 0 by decide) ?_
      conv => whnf
      refine And.intro (vp_in_nI (by omega) (by decide)) ?_
      rw [nI_clamp (by omega)]
      conv => whnf
      rw [show rR true (sJ M2 26 0 i _) 6 0 7 = some (10, 4 * t + eW E) from b2]
      conv => whnf
      refine And.intro (vp_in_nI (by omega) (by decide)) ?_
      rw [nI_clamp (by omega), mI_sJ, hw.1]
      conv => whnf
      rw [show rR true (sJ M2 26 0 i _) 6 0 6 = some (7, t) from b1]
      conv => whnf
      rw [show rR true (sJ M2 26 0 i _) 6 0 7 = some (10, 4 * t + eW E) from b2]
      conv => whnf
      refine And.intro (vp_in_nI (by omega) (by decide)) ?_
      rw [nI_clamp (by omega), mI_sJ, hw.2.1]
      conv => whnf
      refine And.intro (vp_in_nI (by omega) (by decide)) ?_
      rw [nI_clamp (by omega), mJ_sJ, if_pos ⟨rfl, rfl, rfl⟩]
      obtain ⟨-, ⟨k, hk, ek, hL⟩, -⟩ := hst i hi
      rw [ek]
      have hcl : ClL (sJ M2 26 0 i (anS E g i)) t k (eT E) := (b9 i hi k hk (Or.inl ek)).un (w := wRd) (Un.rfl.pJ rfl) (fun _ _ => rfl) (fun _ _ => rfl) (fun _ _ => rfl)
      refine cl_use (fun K h => c_lawValue Ω _ t k (eT E) _ K hk hcl hL h) trivial ?_
      conv => whnf
      refine And.intro (vp_in_nI (by omega) (by decide)) ?_
      rw [nI_clamp (by omega), mJ_sJ, if_neg (fun q => absurd q.1 (by decide)), hR i (Nat.le_refl _) hi]
      refine And.intro (show ¬ (2 : Int64) = 0 by decide) ?_
      conv => whnf
      refine And.intro (vp_in_nI (by omega) (by decide)) ?_
      conv => whnf
      refine And.intro (vp_in_nI (by omega) (by decide)) ?_
      rw [nI_clamp (by omega), mJ_sJ, if_neg (fun q => absurd q.1 (by decide)), hR i (Nat.le_refl _) hi]
      have eam : (eT E 92 (10 * eW E + i)).toInt64 * lwT (eT E) k (anS E g i) = amS E i (anS E g i) := by rw [amS, ek, nI_clamp (by omega)]
      have egoal : GoS Ω true m_Solver_goRound K 75 [some (vR (some (6, 0))), some (vI (bI (chS E g (i + 1)))), some (vI (nI i + 1)), some (vJ (amS E i (anS E g i))), none, some (vJ ((amS E i (anS E g i) - g i) / 2)), none] [] (sJ (sJ M2 26 0 i (anS E g i)) 23 0 i (g i + (amS E i (anS E g i) - g i) / 2)) 0 0 := by
        have := hN (sJ (sJ M2 26 0 i (anS E g i)) 23 0 i (g i + (amS E i (anS E g i) - g i) / 2)) ⟨(hU.pJ rfl).pJ rfl, fun i' hi' => ?_, fun i' hi' => ?_, fun i' h1 h2 => ?_⟩ (some (vJ (amS E i (anS E g i)))) none (some (vJ ((amS E i (anS E g i) - g i) / 2))) none
        · rw [← nI_1] at this
          exact this
        · exact hDB i' hi'
        · rw [mJ_sJ, mJ_sJ, mJ_sJ, mJ_sJ]
          by_cases e : i' = i
          · subst e
            exact ⟨if_pos ⟨rfl, rfl, rfl⟩, (if_neg (fun q => absurd q.1 (by decide))).trans (if_pos ⟨rfl, rfl, rfl⟩)⟩
          · rw [if_neg (fun q => e q.2.2), if_neg (fun q => e q.2.2), if_neg (fun q => e q.2.2), if_neg (fun q => e q.2.2)]
            exact hA i' (by omega)
        · rw [mJ_sJ, mJ_sJ, if_neg (fun q => by omega), if_neg (fun q => absurd q.1 (by decide))]
          exact hR i' (by omega) h2
      conv => whnf
      refine br_bn (fun c => ?_) (fun c => ?_)
      · conv => whnf
        rw [chS, c, Bool.true_or] at egoal
        rw [← eam] at egoal
        exact egoal
      · conv => whnf
        refine And.intro (fun z => ?_) (fun z => ?_)
        · conv => whnf
          have z := (lg_cmp_eq _ _).mp z
          rw [chS, c, Bool.false_or, decide_eq_true (show nxS E g i = g i by rw [nxS]; exact nx_step.mpr (by rw [← eam]; exact z))] at egoal
          rw [← eam] at egoal
          exact egoal
        · conv => whnf
          have z : ¬ _ := fun q => z ((lg_cmp_eq _ _).mpr q)
          rw [chS, c, Bool.false_or, decide_eq_false (show ¬ nxS E g i = g i by rw [nxS]; exact fun q => z (by have := nx_step.mp q; rw [← eam] at this; exact this))] at egoal
          rw [← eam] at egoal
          exact egoal
    · rintro M2 ⟨hU, hDB, hA, -⟩ r3 r4 r5 r6
      have hs2 := (hE.un hU).2.2.2.1
      refine go_wp ok_Solver_goRound [] 250 _ _ _ _ _ _ ?_
      refine And.intro (fun _ => ?_) (fun a => ?_)
      · conv => whnf
        exact ⟨bI_01 _, hK M2 hU (fun i hi => ⟨(hA i hi).1, (hDB i hi).1, (hDB i hi).2, (hA i hi).2⟩)⟩
      · rw [hs2, nI_leI (by omega) (by omega)] at a; omega
  refine call_go (hJL rfl) (Nat.le_of_ble_eq_true rfl) (go_wp ok_Solver_goRound [55] 250 _ _ _ _ _ _ ?_)
  conv => whnf
  rw [show rR true M 6 0 6 = some (7, t) from a1]
  conv => whnf
  rw [show rR true M 6 0 7 = some (10, 4 * t + eW E) from a2]
  conv => whnf
  rw [show rR true M 6 0 7 = some (10, 4 * t + eW E) from a2]
  conv => whnf
  rw [hby]
  -- from the bend on
  have bend : ∀ M1 : Mem, Un wRd M M1 → (∀ i, i < eN E → mJ M1 23 0 i = g i ∧ mJ M1 24 0 i = dnS E g i) → GoS Ω true m_Solver_goRound K 55 [some (vR (some (6, 0))), none, none, none, none, none, none] [] M1 0 0 := by
    intro M1 hU1 hD1
    obtain ⟨b1, b2, b3, b4, b5, b6, b7, b8, b9, b10⟩ := hE.un hU1
    refine go_wp ok_Solver_goRound [75] 250 _ _ _ _ _ _ ?_
    conv => whnf
    rw [show rR true M1 6 0 7 = some (10, 4 * t + eW E) from b2]
    conv => whnf
    rw [b8.2.2.1]
    refine ⟨fun v M' => v = none ∧ Un wBn M1 M' ∧ ∀ i, i < eN E → mJ M' 25 0 i = bnS E g i, c_tellBend Ω M1 (eN E) (eV E) g _ _ hn3 b4 b5 (fun i hi => (hD1 i hi).1) (fun M' a b => ⟨rfl, a, fun i hi => ?_⟩), trivial, ?_⟩
    · rw [b i hi, ovS, bnS]
      by_cases z : eT E 88 (eW E) = 0
      · rw [if_pos ((st_0 hWg.2.2.1).mpr z), if_pos z]
      · rw [if_neg (fun q => z ((st_0 hWg.2.2.1).mp q)), if_neg z, Int64.mul_comm 1000]
    · rintro v M' ⟨rfl, hU, hB⟩
      conv => whnf
      exact fin M' (hU1.trans (hU.mono wRd_bn)) (fun i hi => ⟨(hU.J rfl).trans (hD1 i hi).1, (hU.J rfl).trans (hD1 i hi).2, hB i hi⟩) none none none none
  refine ⟨fun v M' => v = none ∧ Un wDn M M' ∧ (∀ k, k ≤ eN E → mJ M' 41 0 k = eg g (eN E) k) ∧ ∀ i, i < eN E → mJ M' 24 0 i = ovS (dnO g (eN E) i (eN E + 1)) (eY E) + eA E i / eY E, c_tellDown Ω M (eN E) g (fun i => eA E i / eY E) (eY E) _ hn3 hg a4 hG a7 a10 (fun M' a b c => ⟨rfl, a, b, c⟩), trivial, ?_⟩
  rintro v M1 ⟨rfl, hU1, hE1, hD1⟩
  have hU1' := hU1.mono wRd_dn
  obtain ⟨b1, b2, b3, b4, b5, b6, b7, b8, b9, b10⟩ := hE.un hU1'
  conv => whnf
  rw [b3, hH]
  refine And.intro (fun z => ?_) (fun z => ?_)
  · have z0 : hh = 0 := by
      rw [show (0 : Int32) = nI 0 from rfl, nI_leI (by omega) (by omega)] at z; omega
    conv => whnf
    refine bend M1 hU1' (fun i hi => ⟨(hU1.J rfl).trans (hG i hi), ?_⟩)
    rw [hD1 i hi, ovS, if_neg hYne, dnS, hH, z0, if_neg (show ¬ (0 : Int32) < nI 0 by decide), show (0 : Int64) / eY E = 0 from Int64.zero_div, Int64.sub_zero]
  · have z0 : 0 < hh := by
      rw [show (0 : Int32) = nI 0 from rfl, nI_leI (by omega) (by omega)] at z; omega
    conv => whnf
    rw [show rR true M1 6 0 7 = some (10, 4 * t + eW E) from b2]
    conv => whnf
    rw [show (14549535 : Int64) * (mI M1 10 (4 * t + eW E) 6).toInt64 = eY E from by rw [b8.2.1]; rfl]
    refine ⟨fun v M' => v = none ∧ Un wDn M1 M' ∧ (∀ i, i < eN E → mJ M' 24 0 i = ovS (dnO g (eN E) i (eN E + 1)) (eY E) + eA E i / eY E - ovS (dnI g (eN E) (nI hh) i (eN E + 1)) (eY E)), c_lift Ω M1 (eN E) hh g _ (eY E) _ hn3 hh21 b4 (b3.trans hH) hE1 hD1 (fun M' a b c => ⟨rfl, a, b⟩), trivial, ?_⟩
    rintro v M2 ⟨rfl, hU2, hD2⟩
    conv => whnf
    refine bend M2 (hU1'.trans (hU2.mono wRd_dn)) (fun i hi => ⟨(hU2.J rfl).trans ((hU1.J rfl).trans (hG i hi)), ?_⟩)
    rw [hD2 i hi, ovS, if_neg hYne, ovS, if_neg hYne, dnS, hH, if_pos (show (0 : Int32) < nI hh from nI_lt z0 (by omega))]
    grind
theorem c_settle (Ω : Om) (M : Mem) (t : Nat) (E : Ev) (g : Nat → Int64) (K : Ka) (hE : CE M t E) (hO : EvOK E) (hg : GB (eN E) g) (hG : ∀ i, i < eN E → mJ M 23 0 i = g i)
    (hK : ∀ M', Un wRd M M' → (¬ (rnS E 120 1 g).1 = -2 → CF M' (eN E) (rnS E 120 1 g).2 (dnS E (rnS E 120 1 g).2) (bnS E (rnS E 120 1 g).2) (anS E (rnS E 120 1 g).2)) → K (some (vI (rnS E 120 1 g).1)) M') : CallS Ω true m_Solver_settle [vR (some (6, 0))] M K := by
  have lp : ∀ (f k : Nat) (g1 : Nat → Int64) (M1 : Mem), k + f = 121 → Un wRd M M1 → GB (eN E) g1 → (∀ i, i < eN E → mJ M1 23 0 i = g1 i) → rnS E f k g1 = rnS E 120 1 g → GoS Ω true m_Solver_settle K 2 [some (vR (some (6, 0))), some (vI (nI k))] [] M1 0 0 := by
    intro f
    induction f with
    | zero =>
      intro k g1 M1 hk hU hb hG1 he
      refine go_wp ok_Solver_settle [] 250 _ _ _ _ _ _ ?_
      refine And.intro (fun _ => ?_) (fun a => absurd (show (120 : Int32) < nI k from nI_lt (a := 120) (by omega) (by omega)) a)
      conv => whnf
      have e1 : (rnS E 120 1 g).1 = -2 := by rw [← he]; rfl
      have := hK M1 hU (fun q => absurd e1 q)
      rw [e1] at this
      exact this
    | succ f ih =>
      intro k g1 M1 hk hU hb hG1 he
      refine go_wp ok_Solver_settle [2] 250 _ _ _ _ _ _ ?_
      refine And.intro (fun a => absurd a (nI_nlt (a := 120) (by omega) (by decide))) (fun _ => ?_)
      conv => whnf
      refine ⟨fun v M' => v = some (vI (bI (chS E g1 (eN E)))) ∧ Un wRd M1 M' ∧ CF M' (eN E) (nxS E g1) (dnS E g1) (bnS E g1) (anS E g1), c_goRound Ω M1 t E g1 _ (hE.un hU) hO hb hG1 (fun M' a b => ⟨rfl, a, b⟩), trivial, ?_⟩
      rintro v M2 ⟨rfl, hU2, hF⟩
      conv => whnf
      refine br_bn (fun c => ?_) (fun c => ?_)
      · conv => whnf
        have := ih (k + 1) (nxS E g1) M2 (by omega) (hU.trans hU2) (nx_bd hO.1 hb) (fun i hi => (hF i hi).1) (by rw [← he, rnS, if_pos c])
        rw [← nI_1] at this
        exact this
      · conv => whnf
        have e : rnS E 120 1 g = (nI k, g1) := by rw [← he, rnS, if_neg (by rw [c]; decide)]
        have := hK M2 (hU.trans hU2) (fun _ i hi => by
          rw [e]
          obtain ⟨q1, q2, q3, q4⟩ := hF i hi
          exact ⟨q1.trans (ch_f c i hi), q2, q3, q4⟩)
        rw [e] at this
        exact this
  refine call_go (hJL rfl) (Nat.le_of_ble_eq_true rfl) (go_wp ok_Solver_settle [2] 250 _ _ _ _ _ _ ?_)
  exact lp 120 1 g M rfl Un.rfl hg hG rfl
