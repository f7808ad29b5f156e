/-! SHAKING, the model's; turns shakes, shake -/
theorem ml_lawAt (Ω : Om) (M : Mem) (p w i k : Nat) (x : Int64) (K : Ka) (hp : p < 4) (hw4 : w < 4) (hi : i < 10) (hk : k < 8) (ek : pg M p 93 (10 * w + i) = nI k) (hL : LwOK (pg M p) k) (a1 : mI M 12 0 71 = nI (4 * p + w)) (h : K (some (vJ (lwT (pg M p) k x))) M) : CallS Ω true m_MD_lawAt [vR (some (12, 0)), vI (nI i), vJ x] M K := by
  obtain ⟨e77, hLO⟩ := hL.n
  refine call_go (hJL rfl) (Nat.le_of_ble_eq_true rfl) (go_wp ok_MD_lawAt [] 250 _ _ _ _ _ _ ?_)
  refine And.intro (show ¬ (4 : Int32) = 0 by decide) ?_
  conv => whnf
  rw [a1, show (4 : Int32) = nI 4 from rfl, pk_div (by omega) (by omega) (by omega), show (8 : Int32) = nI 8 from rfl, pk_mul, show (10 : Int32) = nI 10 from rfl, pk_mul, nI_add]
  refine And.intro (vp_in_nI (by omega) (by decide)) ?_
  rw [nI_clamp (by omega), pgI (M := M) (p := p) (f := 93) (a := 10 * w + i) rfl (show 10 * (4 * p + w) + i = 40 * p + (10 * w + i) by omega), ek]
  conv => whnf
  rw [nI_add, show 8 * ((4 * p + w) / 4) + k = 8 * p + k by omega]
  refine cl_use (fun K h => c_valueOf Ω M (8 * p + k) _ _ _ x K hLO (by omega) ?_ (fun j hj => ?_) (fun j hj => ?_) h) trivial ?_
  · rw [← e77]; exact pgI rfl rfl
  · show _ = pg M p 78 (8 * k + j)
    exact pgI rfl (by show _ = 64 * p + _; omega)
  · show _ = pg M p 79 (8 * k + j)
    exact pgI rfl (by show _ = 64 * p + _; omega)
  exact h
set_option maxRecDepth 8000 in
theorem ms_swing (Ω : Om) (M : Mem) (k : Int32) (v s : Int32) (by_ ma b c d : Int64) (r6 : Option Vl) (K : Ka) (h : K (some (vI (bI (grS (by_ * v.toInt64 * v.toInt64) b c d)))) M) : ∀ (p u : Int64) (r25 r26 : Option Vl), GoS Ω true m_MD_shakesAt K 166 [some (vR (some (12, 0))), some (vI k), some (vI v), some (vI s), some (vJ by_), none, some (vJ ma), none, some (vJ b), none, some (vJ c), none, some (vJ d), none, some (vJ p), none, some (vJ u), none, some (vJ 0), none, some (vJ 1000), none, some (vJ 0), none, some (vI 1), r25, r26] [] M 0 0 := by
  generalize hP : by_ * v.toInt64 * v.toInt64 = P at h
  have lp := upN 120 (fun j => ∀ (p u : Int64) (r25 r26 : Option Vl), GoS Ω true m_MD_shakesAt K 166 [some (vR (some (12, 0))), some (vI k), some (vI v), some (vI s), some (vJ by_), none, some (vJ ma), none, some (vJ b), none, some (vJ c), none, some (vJ d), none, some (vJ p), none, some (vJ u), none, some (vJ (swS P b c d j).1), none, some (vJ (swS P b c d j).2), none, some (vJ (gsS P b c d j)), none, some (vI (nI (j + 1))), r25, r26] [] M 0 0) ?_ ?_ 0 (Nat.zero_le _)
  · exact lp
  · intro j hj hN p u r25 r26
    refine go_wp ok_MD_shakesAt [318, 301] 250 _ _ _ _ _ _ ?_
    refine And.intro (fun a => absurd a (nI_nlt (a := 120) (by omega) (by decide))) (fun _ => ?_)
    refine And.intro (show ¬ (1000000 : Int64) = 0 by decide) ?_
    refine And.intro (show ¬ (1000 : Int64) = 0 by decide) ?_
    refine And.intro (show ¬ (1000 : Int64) = 0 by decide) ?_
    conv => whnf
    rw [hP]
    refine cl_use (fun K h => c_holdsTo Ω M _ K h) trivial ?_
    refine And.intro (show ¬ (1000 : Int64) = 0 by decide) ?_
    refine And.intro (show ¬ (1000 : Int64) = 0 by decide) ?_
    refine And.intro (show ¬ (1000 : Int64) = 0 by decide) ?_
    conv => whnf
    refine cl_use (fun K h => c_holdsTo Ω M _ K h) trivial ?_
    conv => whnf
    refine cl_use (fun K h => c_holdsTo Ω M _ K h) trivial ?_
    conv => whnf
    refine cl_use (fun K h => c_holdsTo Ω M _ K h) trivial ?_
    have eq1 : hd ((swS P b c d j).1 - P * (swS P b c d j).2 / 1000000 * d / 1000 - b * (swS P b c d j).2 / 1000 - c * (swS P b c d j).1 / 1000) = (swS P b c d (j + 1)).1 := rfl
    rw [eq1]
    have eq2 : hd ((swS P b c d j).2 + (swS P b c d (j + 1)).1) = (swS P b c d (j + 1)).2 := rfl
    rw [eq2]
    have hq := sw_bd P b c d (j + 1)
    have hg := gs_bd P b c d j
    have hgs : gsS P b c d (j + 1) = if 80 ≤ j then (if ab (swS P b c d (j + 1)).2 < gsS P b c d j then gsS P b c d j else ab (swS P b c d (j + 1)).2) else gsS P b c d j := rfl
    generalize hQ : (swS P b c d (j + 1)).2 = Q at hq hgs hN
    generalize (swS P b c d (j + 1)).1 = W at hN
    generalize gsS P b c d j = G at hg hgs
    generalize gsS P b c d (j + 1) = G2 at hgs hN
    have fin : ∀ (y : Int64) (p2 u2 : Int64) (r : Option Vl), y = G2 → GoS Ω true m_MD_shakesAt K 318 [some (vR (some (12, 0))), some (vI k), some (vI v), some (vI s), some (vJ by_), none, some (vJ ma), none, some (vJ b), none, some (vJ c), none, some (vJ d), none, some (vJ p2), none, some (vJ u2), none, some (vJ W), none, some (vJ Q), none, some (vJ y), none, some (vI (nI (j + 1))), r, none] [] M 0 0 := by
      rintro y p2 u2 r rfl
      refine go_wp ok_MD_shakesAt [166] 250 _ _ _ _ _ _ ?_
      conv => whnf
      have := hN p2 u2 r none
      rw [← nI_1 (j + 1)] at this
      exact this
    refine And.intro (fun a => ?_) (fun a => ?_)
    · have hj80 : ¬ 80 ≤ j := fun q => absurd a (nI_ge (a := 80) (by omega) (by omega))
      rw [if_neg hj80] at hgs
      conv => whnf
      exact fin G _ _ _ hgs.symm
    · have hj80 : 80 ≤ j := Decidable.byContradiction (fun q => a (nI_le (b := 80) (by omega) (by decide)))
      rw [if_pos hj80] at hgs
      obtain ⟨g1, g2⟩ := gs_md hq hg
      have setq : (G < Q ∨ G < -Q) → GoS Ω true m_MD_shakesAt K 301 [some (vR (some (12, 0))), some (vI k), some (vI v), some (vI s), some (vJ by_), none, some (vJ ma), none, some (vJ b), none, some (vJ c), none, some (vJ d), none, some (vJ (hd (p + hd (u + P * (swS P b c d j).2 / 1000000 - ma * p / 1000 - c * u / 1000)))), none, some (vJ (hd (u + P * (swS P b c d j).2 / 1000000 - ma * p / 1000 - c * u / 1000))), none, some (vJ W), none, some (vJ Q), none, some (vJ G), none, some (vI (nI (j + 1))), some (vJ (P * (swS P b c d j).2 / 1000000)), none] [] M 0 0 := by
        intro hh
        have e := (g1 hh).trans hgs.symm
        refine go_wp ok_MD_shakesAt [318] 250 _ _ _ _ _ _ ?_
        refine And.intro (fun z => ?_) (fun z => ?_)
        · have z := (lg_cmp_ge _ _).mp z
          conv => whnf
          exact fin Q _ _ _ (by rw [← e, ← ab_m, if_neg (Int64.not_lt.mpr z)])
        · have z : Q < 0 := Int64.not_le.mp (fun q => z ((lg_cmp_ge _ _).mpr q))
          conv => whnf
          exact fin (-Q) _ _ _ (by rw [← e, ← ab_m, if_pos z])
      refine And.intro (fun z => ?_) (fun z => ?_)
      · have z := (lg_cmp_gt _ _).mp z
        exact setq (Or.inl z)
      · have z : ¬ G < Q := fun q => z ((lg_cmp_gt _ _).mpr q)
        conv => whnf
        refine And.intro (fun z2 => ?_) (fun z2 => ?_)
        · have z2 := (lg_cmp_le _ _).mp z2
          conv => whnf
          exact fin G _ _ _ ((g2 (fun q => q.elim z (fun q => absurd z2 (Int64.not_le.mpr q)))).trans hgs.symm)
        · have z2 : G < -Q := Int64.not_le.mp (fun q => z2 ((lg_cmp_le _ _).mpr q))
          exact setq (Or.inr z2)
  · intro p u r25 r26
    refine go_wp ok_MD_shakesAt [] 250 _ _ _ _ _ _ ?_
    refine And.intro (fun _ => ?_) (fun a => absurd (show (120 : Int32) < nI 121 by decide) a)
    unfold grS at h
    refine And.intro (fun a => ?_) (fun a => ?_)
    · have a := (lg_cmp_le _ _).mp a
      rw [decide_eq_false (Int64.not_lt.mpr a)] at h
      exact h
    · have a : 1000 < gsS P b c d 120 := Int64.not_le.mp (fun q => a ((lg_cmp_le _ _).mpr q))
      rw [decide_eq_true a] at h
      exact h
set_option maxRecDepth 8000 in
theorem c_MD_shakesAt (Ω : Om) (M : Mem) (t w : Nat) (v s : Int32) (K : Ka) (ht : t < 4) (hw4 : w < 4) (hW : WgOK (pg M t) w)
    (hK : ∀ M', Un wX M M' → K (some (vI (skS (pg M t) w v s (pg M t 83)))) M') : CallS Ω true m_MD_shakesAt [vR (some (12, 0)), vI (nI (4 * t + w)), vI v, vI s] M K := by
  obtain ⟨hn1, hn2, hn3, hst⟩ := hW.n
  refine call_go (hJL rfl) (Nat.le_of_ble_eq_true rfl) (go_wp ok_MD_shakesAt [31] 250 _ _ _ _ _ _ ?_)
  conv => whnf
  have hq := mr3 Ω M t w v s 1 (pg M t 83) ht hw4 hW (Or.inr rfl) (funext fun k => hxS1 _ k) (fun M' => Un wX M M' ∧ mI M' 12 0 71 = nI (4 * t + w) ∧ mI M' 12 0 72 = nI (wN (pg M t) w) ∧ (¬ rnR (evR (pg M t) w v s (pg M t 83)) z0 = -2 → ∀ i, i < wN (pg M t) w → mJ M' 117 0 i = anS (evR (pg M t) w v s (pg M t 83)) (rnG (evR (pg M t) w v s (pg M t 83)) z0) i)) (fun M' q1 q2 q3 q4 q5 q6 => ⟨q2, q4, q5, fun z i hi => (q3 z i hi).2.2.2⟩)
  unfold skS at hK
  generalize evR (pg M t) w v s (pg M t 83) = E at hq hK
  obtain ⟨K0, c0, -, c1⟩ := hq
  refine ⟨K0, c0, trivial, ?_⟩
  intro r M3 hr
  obtain ⟨rfl, K1, c2, -, c3⟩ := c1 r M3 hr
  conv => whnf
  refine ⟨K1, c2, trivial, ?_⟩
  intro r M4 hr
  obtain ⟨rfl, K2, c4, -, c5⟩ := c3 r M4 hr
  conv => whnf
  refine ⟨K2, c4, trivial, ?_⟩
  intro r M5 hr
  obtain ⟨rfl, g1, g71, g72, g3⟩ := c5 r M5 hr
  have hK := hK M5 g1
  refine And.intro (fun z => ?_) (fun z => ?_)
  · rw [if_neg z] at hK
    have g3 := g3 z
    generalize anS E (rnG E z0) = a at g3 hK
    have ep := pg_av g1 wX_tx t
    conv => whnf
    refine upN (wN (pg M t) w) (fun j => GoS Ω true m_MD_shakesAt K 31 [some (vR (some (12, 0))), some (vI (nI (4 * t + w))), some (vI v), some (vI s), some (vJ (spS (pg M t) w a j)), none, some (vI (nI j)), none, none, none, none, none, none, none, none, none, none, none, none, none, none, none, none, none, none, none, none] [] M5 0 0) ?_ ?_ 0 (Nat.zero_le _)
    · intro j hj hN
      obtain ⟨-, ⟨k, hk, ek, hLk⟩, -⟩ := hst j hj
      refine go_wp ok_MD_shakesAt [31] 250 _ _ _ _ _ _ ?_
      refine And.intro (fun b => ?_) (fun _ => ?_)
      · rw [g72, nI_leI (by omega) (by omega)] at b; omega
      conv => whnf
      rw [show (10 : Int32) = nI 10 from rfl, pk_mul, nI_add]
      refine And.intro (vp_in_nI (by omega) (by decide)) ?_
      conv => whnf
      refine And.intro (vp_in_nI (by omega) (by decide)) ?_
      rw [nI_clamp (by omega), nI_clamp (by omega), g3 j hj, pgI (M := M5) (p := t) (f := 92) (a := 10 * w + j) rfl (show 10 * (4 * t + w) + j = 40 * t + (10 * w + j) by omega), ep]
      refine cl_use (fun K h => ml_lawAt Ω M5 t w j k (a j + 1) K ht hw4 (by omega) hk (by rw [ep]; exact ek) (by rw [ep]; exact hLk) g71 h) trivial ?_
      conv => whnf
      refine And.intro (vp_in_nI (by omega) (by decide)) ?_
      rw [nI_clamp (by omega), g3 j hj]
      refine cl_use (fun K h => ml_lawAt Ω M5 t w j k (a j - 1) K ht hw4 (by omega) hk (by rw [ep]; exact ek) (by rw [ep]; exact hLk) g71 h) trivial ?_
      conv => whnf
      rw [ep]
      rw [spS, sm, ek, nI_clamp (by omega), ← nI_1] at hN
      exact hN
    · have e91 : ∀ j, mI M5 91 0 (4 * (4 * t + w) + j) = pg M t 91 (4 * w + j) := fun j => by
        rw [pgI (M := M5) (p := t) (f := 91) (a := 4 * w + j) rfl (show 4 * (4 * t + w) + j = 16 * t + (4 * w + j) by omega), ep]
      refine go_wp ok_MD_shakesAt [166] 250 _ _ _ _ _ _ ?_
      refine And.intro (fun _ => ?_) (fun b => ?_)
      · conv => whnf
        rw [show (4 : Int32) = nI 4 from rfl, pk_mul]
        refine And.intro (vp_in_nI (by omega) (by decide)) ?_
        conv => whnf
        rw [show (4 : Int32) = nI 4 from rfl, pk_mul, nI_1]
        refine And.intro (vp_in_nI (by omega) (by decide)) ?_
        conv => whnf
        rw [show (4 : Int32) = nI 4 from rfl, pk_mul, show (2 : Int32) = nI 2 from rfl, nI_add]
        refine And.intro (vp_in_nI (by omega) (by decide)) ?_
        conv => whnf
        rw [show (4 : Int32) = nI 4 from rfl, pk_mul, show (3 : Int32) = nI 3 from rfl, nI_add]
        refine And.intro (vp_in_nI (by omega) (by decide)) ?_
        rw [nI_clamp (by omega), nI_clamp (by omega), nI_clamp (by omega), nI_clamp (by omega), e91 1, e91 2, e91 3]
        exact ms_swing Ω M5 _ v s _ _ _ _ _ none K hK 0 0 none none
      · rw [g72, nI_leI (by omega) (by omega)] at b; omega
  · rw [if_pos (Decidable.not_not.mp (fun q => q z))] at hK
    exact hK
