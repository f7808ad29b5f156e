/-! READ: the model's reader: laws and hinges named, II -/
set_option maxHeartbeats 1000000 in
theorem ln_loop {Ω : Om} {K : Ka} {M : Mem} {i p c : Nat} {x : Int64} {z : Bool} (hi : i ≤ 500) (hp : p < 4) (h20 : mI M 12 0 20 = nI p) (hx : mJ M 72 0 i = x) (hc8 : c ≤ 8)
    (hN : ∀ v, GoS Ω true m_MD_lawNamed K 92 [some (vR (some (12, 0))), some (vI (bI z)), some (vI (nI i)), some (vI (hI (dn (fun k => decide (mJ M 75 0 (8 * p + k) = x) && decide (mI M 76 0 (8 * p + k) = bI z)) c none))), v] [] M 0 0) :
    ∀ m r, m ≤ c → dn (fun k => decide (mJ M 75 0 (8 * p + k) = x) && decide (mI M 76 0 (8 * p + k) = bI z)) m r = dn (fun k => decide (mJ M 75 0 (8 * p + k) = x) && decide (mI M 76 0 (8 * p + k) = bI z)) c none → GoS Ω true m_MD_lawNamed K 34 [some (vR (some (12, 0))), some (vI (bI z)), some (vI (nI i)), some (vI (hI r)), some (vI (pd m))] [] M 0 0 := by
  intro m
  induction m with
  | zero =>
    intro r hm he
    have he : r = dn (fun k => decide (mJ M 75 0 (8 * p + k) = x) && decide (mI M 76 0 (8 * p + k) = bI z)) c none := he
    rw [← he] at hN
    refine go_wp ok_MD_lawNamed [92] 250 _ _ _ _ _ _ ?_
    refine And.intro (fun _ => hN _) (fun q => absurd (show pd 0 < 0 by decide) q)
  | succ m ih =>
    intro r hm he
    rw [pd_s]
    rw [dn] at he
    refine go_wp ok_MD_lawNamed [34, 86, 92] 250 _ _ _ _ _ _ ?_
    refine And.intro (fun q => absurd q (nI_pos (by omega))) (fun _ => ?_)
    conv => whnf
    have nx : ∀ r', dn (fun k => decide (mJ M 75 0 (8 * p + k) = x) && decide (mI M 76 0 (8 * p + k) = bI z)) m r' = dn (fun k => decide (mJ M 75 0 (8 * p + k) = x) && decide (mI M 76 0 (8 * p + k) = bI z)) c none → GoS Ω true m_MD_lawNamed K 86 [some (vR (some (12, 0))), some (vI (bI z)), some (vI (nI i)), some (vI (hI r')), some (vI (nI m))] [] M 0 0 := fun r' hr' => by
      refine go_wp ok_MD_lawNamed [34] 250 _ _ _ _ _ _ ?_
      conv => whnf
      rw [pd_d]
      exact ih r' (by omega) hr'
    rw [h20, show (8 : Int32) = nI 8 from rfl, pk_mul, nI_add]
    refine And.intro (vp_in_nI (by omega) (by decide)) ?_
    rw [nI_clamp (by omega)]
    conv => whnf
    refine And.intro (vp_in_nI (by omega) (by decide)) ?_
    rw [nI_clamp (by omega), hx]
    refine And.intro (fun q => ?_) (fun q => ?_)
    · have q : ¬ mJ M 75 0 (8 * p + m) = x := fun w => q ((lg_cmp_eq _ _).mpr w)
      refine nx r ?_
      rw [← he, decide_eq_false q, Bool.false_and]
      rfl
    · have q : mJ M 75 0 (8 * p + m) = x := (lg_cmp_eq _ _).mp q
      rw [decide_eq_true q, Bool.true_and] at he
      conv => whnf
      rw [h20, show (8 : Int32) = nI 8 from rfl, pk_mul, nI_add]
      refine And.intro (vp_in_nI (by omega) (by decide)) ?_
      rw [nI_clamp (by omega)]
      refine And.intro (fun q2 => ?_) (fun q2 => ?_)
      · refine nx r ?_
        rw [← he, decide_eq_false q2]
        rfl
      · have q2 : mI M 76 0 (8 * p + m) = bI z := q2
        conv => whnf
        refine nx (some m) ?_
        rw [← he, decide_eq_true q2]
        rfl
set_option maxHeartbeats 1000000 in
theorem hn_loop {Ω : Om} {K : Ka} {M : Mem} {i p c : Nat} {x : Int64} (hi : i ≤ 500) (hp : p < 4) (h20 : mI M 12 0 20 = nI p) (hx : mJ M 72 0 i = x) (hc8 : c ≤ 4)
    (hN : ∀ v, GoS Ω true m_MD_hingeNamed K 68 [some (vR (some (12, 0))), some (vI (nI i)), some (vI (hI (dn (fun k => decide (mJ M 81 0 (4 * p + k) = x)) c none))), v] [] M 0 0) :
    ∀ m r, m ≤ c → dn (fun k => decide (mJ M 81 0 (4 * p + k) = x)) m r = dn (fun k => decide (mJ M 81 0 (4 * p + k) = x)) c none → GoS Ω true m_MD_hingeNamed K 33 [some (vR (some (12, 0))), some (vI (nI i)), some (vI (hI r)), some (vI (pd m))] [] M 0 0 := by
  intro m
  induction m with
  | zero =>
    intro r hm he
    have he : r = dn (fun k => decide (mJ M 81 0 (4 * p + k) = x)) c none := he
    rw [← he] at hN
    refine go_wp ok_MD_hingeNamed [68] 250 _ _ _ _ _ _ ?_
    refine And.intro (fun _ => hN _) (fun q => absurd (show pd 0 < 0 by decide) q)
  | succ m ih =>
    intro r hm he
    rw [pd_s]
    rw [dn] at he
    refine go_wp ok_MD_hingeNamed [33, 62, 68] 250 _ _ _ _ _ _ ?_
    refine And.intro (fun q => absurd q (nI_pos (by omega))) (fun _ => ?_)
    conv => whnf
    have nx : ∀ r', dn (fun k => decide (mJ M 81 0 (4 * p + k) = x)) m r' = dn (fun k => decide (mJ M 81 0 (4 * p + k) = x)) c none → GoS Ω true m_MD_hingeNamed K 62 [some (vR (some (12, 0))), some (vI (nI i)), some (vI (hI r')), some (vI (nI m))] [] M 0 0 := fun r' hr' => by
      refine go_wp ok_MD_hingeNamed [33] 250 _ _ _ _ _ _ ?_
      conv => whnf
      rw [pd_d]
      exact ih r' (by omega) hr'
    rw [h20, show (4 : Int32) = nI 4 from rfl, pk_mul, nI_add]
    refine And.intro (vp_in_nI (by omega) (by decide)) ?_
    rw [nI_clamp (by omega)]
    conv => whnf
    refine And.intro (vp_in_nI (by omega) (by decide)) ?_
    rw [nI_clamp (by omega), hx]
    refine And.intro (fun q => ?_) (fun q => ?_)
    · have q : ¬ mJ M 81 0 (4 * p + m) = x := fun w => q ((lg_cmp_eq _ _).mpr w)
      refine nx r ?_
      rw [← he, decide_eq_false q]
      rfl
    · have q : mJ M 81 0 (4 * p + m) = x := (lg_cmp_eq _ _).mp q
      rw [decide_eq_true q] at he
      conv => whnf
      refine nx (some m) ?_
      rw [← he]
      rfl
