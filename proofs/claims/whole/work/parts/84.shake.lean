/-! SHAKING, in both -/
def hd (x : Int64) : Int64 := if x < -1000000 then -1000000 else if 1000000 < x then 1000000 else x
theorem hd_bd (x : Int64) : -1000000 ≤ (hd x).toInt ∧ (hd x).toInt ≤ 1000000 := by
  unfold hd
  split
  · exact ⟨by decide, by decide⟩
  next h1 =>
    split
    · exact ⟨by decide, by decide⟩
    next h2 =>
      have h1 := Int64.le_iff_toInt_le.mp (Int64.not_lt.mp h1)
      have h2 := Int64.le_iff_toInt_le.mp (Int64.not_lt.mp h2)
      rw [show (-1000000 : Int64).toInt = -1000000 from rfl] at h1
      rw [show (1000000 : Int64).toInt = 1000000 from rfl] at h2
      exact ⟨h1, h2⟩
theorem c_held (Ω : Om) (M : Mem) (x : Int64) (K : Ka) (h : K (some (vJ (hd x))) M) : CallS Ω true m_Trials_held [vJ x] M K := by
  refine call_go (hJL rfl) (Nat.le_of_ble_eq_true rfl) (go_wp ok_Trials_held [] 250 _ _ _ _ _ _ ?_)
  conv => whnf
  have e : (if (if x < 1000000 then x else 1000000) < (-1000000 : Int64) then (-1000000 : Int64) else (if x < 1000000 then x else 1000000)) = hd x := by
    unfold hd
    by_cases a : x < -1000000
    · rw [if_pos a, if_pos (Int64.lt_trans a (by decide)), if_pos a]
    · rw [if_neg a]
      by_cases b : x < 1000000
      · rw [if_pos b, if_neg a, if_neg (fun q => Int64.lt_irrefl (Int64.lt_trans b q))]
      · rw [if_neg b, if_neg (by decide)]
        by_cases c : 1000000 < x
        · rw [if_pos c]
        · rw [if_neg c]; exact Int64.le_antisymm (Int64.not_lt.mp b) (Int64.not_lt.mp c)
  rw [e]
  exact h
set_option maxRecDepth 8000 in
theorem c_holdsTo (Ω : Om) (M : Mem) (x : Int64) (K : Ka) (h : K (some (vJ (hd x))) M) : CallS Ω true m_MD_holdsTo [vJ x] M K := by
  refine call_go (hJL rfl) (Nat.le_of_ble_eq_true rfl) (go_wp ok_MD_holdsTo [] 250 _ _ _ _ _ _ ?_)
  unfold hd at h
  refine And.intro (fun a => ?_) (fun a => ?_)
  · have a := (lg_cmp_ge _ _).mp a
    rw [if_neg (Int64.not_lt.mpr a)] at h
    refine And.intro (fun b => ?_) (fun b => ?_)
    · have b := (lg_cmp_le _ _).mp b
      rw [if_neg (Int64.not_lt.mpr b)] at h
      exact h
    · have b : 1000000 < x := Int64.not_le.mp (fun q => b ((lg_cmp_le _ _).mpr q))
      rw [if_pos b] at h
      exact h
  · have a : x < -1000000 := Int64.not_le.mp (fun q => a ((lg_cmp_ge _ _).mpr q))
    rw [if_pos a] at h
    exact h
/-- w and q after k swings -/
def swS (p b c d : Int64) : Nat → Int64 × Int64
  | 0 => (0, 1000)
  | k + 1 => (hd ((swS p b c d k).1 - p * (swS p b c d k).2 / 1000000 * d / 1000 - b * (swS p b c d k).2 / 1000 - c * (swS p b c d k).1 / 1000), hd ((swS p b c d k).2 + hd ((swS p b c d k).1 - p * (swS p b c d k).2 / 1000000 * d / 1000 - b * (swS p b c d k).2 / 1000 - c * (swS p b c d k).1 / 1000)))
/-- the greatest of the last swings -/
def gsS (p b c d : Int64) : Nat → Int64
  | 0 => 0
  | k + 1 => if 80 ≤ k then (if ab (swS p b c d (k + 1)).2 < gsS p b c d k then gsS p b c d k else ab (swS p b c d (k + 1)).2) else gsS p b c d k
def grS (p b c d : Int64) : Bool := decide (1000 < gsS p b c d 120)
theorem c_isGrowing (Ω : Om) (M : Mem) (f : Nat) (m : Nat → Int32) (p : Int64) (K : Ka) (hm : ∀ j, j < 4 → mI M 62 f j = m j) (h : K (some (vI (bI (grS p (m 1).toInt64 (m 2).toInt64 (m 3).toInt64)))) M) : CallS Ω true m_Trials_isGrowing [vR (some (62, f)), vJ p] M K := by
  refine call_go (hJL rfl) (Nat.le_of_ble_eq_true rfl) (go_wp ok_Trials_isGrowing [21] 250 _ _ _ _ _ _ ?_)
  refine And.intro (fun _ => ?_) (fun a => absurd (by decide) a)
  conv => whnf
  generalize hb : (m 1).toInt64 = b at h
  generalize hc : (m 2).toInt64 = c at h
  generalize hd' : (m 3).toInt64 = d at h
  refine upN 120 (fun k => ∀ r10 r11 : Option Vl, GoS Ω true m_Trials_isGrowing K 21 [some (vR (some (62, f))), some (vJ p), none, some (vJ (swS p b c d k).1), none, some (vJ (swS p b c d k).2), none, some (vJ (gsS p b c d k)), none, some (vI (nI k)), r10, r11] [] M 0 0) ?_ ?_ 0 (Nat.zero_le _) none none
  · intro k hk hN r10 r11
    refine go_wp ok_Trials_isGrowing [21] 250 _ _ _ _ _ _ ?_
    refine And.intro (fun a => absurd a (nI_ge (b := 120) hk (by decide))) (fun _ => ?_)
    refine And.intro (show ¬ (1000000 : Int64) = 0 by decide) ?_
    conv => whnf
    refine And.intro (vp_in_nI (n := 3) (by omega) (by decide)) ?_
    rw [show mI M 62 f (Int32.toNatClampNeg 3) = m 3 from hm 3 (by decide)]
    refine And.intro (show ¬ (1000 : Int64) = 0 by decide) ?_
    conv => whnf
    refine And.intro (vp_in_nI (n := 1) (by omega) (by decide)) ?_
    rw [show mI M 62 f (Int32.toNatClampNeg 1) = m 1 from hm 1 (by decide)]
    refine And.intro (show ¬ (1000 : Int64) = 0 by decide) ?_
    conv => whnf
    refine And.intro (vp_in_nI (n := 2) (by omega) (by decide)) ?_
    rw [show mI M 62 f (Int32.toNatClampNeg 2) = m 2 from hm 2 (by decide)]
    refine And.intro (show ¬ (1000 : Int64) = 0 by decide) ?_
    conv => whnf
    rw [hb, hc, hd']
    refine cl_use (fun K h => c_held Ω M _ K h) trivial ?_
    conv => whnf
    refine cl_use (fun K h => c_held Ω M _ K h) trivial ?_
    have hN := hN (some (vJ (p * (swS p b c d k).2 / 1000000))) none
    rw [← nI_1, gsS] at hN
    refine And.intro (fun a => ?_) (fun a => ?_)
    · have hk80 : ¬ 80 ≤ k := by
        intro q
        exact absurd a (nI_nlt (b := 80) q (by omega))
      rw [if_neg hk80] at hN
      conv => whnf
      exact hN
    · have hk80 : 80 ≤ k := by
        refine Decidable.byContradiction (fun q => a (nI_lt (b := 80) (by omega) (by decide)))
      rw [if_pos hk80] at hN
      conv => whnf
      exact hN
  · intro r10 r11
    refine go_wp ok_Trials_isGrowing [] 250 _ _ _ _ _ _ ?_
    refine And.intro (fun _ => ?_) (fun a => absurd (Int32.le_refl _) a)
    unfold grS at h
    refine And.intro (fun a => ?_) (fun a => ?_)
    · have a := (lg_cmp_le _ _).mp a
      rw [decide_eq_false (Int64.not_lt.mpr a)] at h
      exact ⟨Or.inl rfl, h⟩
    · have a : 1000 < gsS p b c d 120 := Int64.not_le.mp (fun q => a ((lg_cmp_le _ _).mpr q))
      rw [decide_eq_true a] at h
      exact ⟨Or.inr rfl, h⟩
theorem ab_bd {q : Int64} (h : -1000000 ≤ q.toInt ∧ q.toInt ≤ 1000000) : 0 ≤ (ab q).toInt ∧ (ab q).toInt ≤ 1000000 := by
  unfold ab
  split
  next h1 =>
    have := Int64.lt_iff_toInt_lt.mp h1
    rw [show (0 : Int64).toInt = 0 from rfl] at this
    omega
  next h1 =>
    have := Int64.le_iff_toInt_le.mp (Int64.not_lt.mp h1)
    rw [show (0 : Int64).toInt = 0 from rfl] at this
    rw [J_neg (by omega)]
    omega
theorem sw_bd (p b c d : Int64) : ∀ k, -1000000 ≤ (swS p b c d k).2.toInt ∧ (swS p b c d k).2.toInt ≤ 1000000 := by
  intro k
  cases k with
  | zero => exact (by decide : -1000000 ≤ (1000 : Int64).toInt ∧ (1000 : Int64).toInt ≤ 1000000)
  | succ k => exact hd_bd _
theorem gs_bd (p b c d : Int64) : ∀ k, 0 ≤ (gsS p b c d k).toInt := by
  intro k
  induction k with
  | zero => exact (by decide : (0 : Int) ≤ (0 : Int64).toInt)
  | succ k ih =>
    rw [gsS]
    split
    · split
      · exact ih
      · exact (ab_bd (sw_bd p b c d (k + 1))).1
    · exact ih
/-- the model's way to the greatest -/
theorem gs_md {q g : Int64} (hq : -1000000 ≤ q.toInt ∧ q.toInt ≤ 1000000) (hg : 0 ≤ g.toInt) : (g < q ∨ g < -q → ab q = (if ab q < g then g else ab q)) ∧ (¬ (g < q ∨ g < -q) → g = (if ab q < g then g else ab q)) := by
  have hn : (-q).toInt = -q.toInt := J_neg (by omega)
  have e : (ab q).toInt = if 0 < q.toInt then q.toInt else -q.toInt := by
    unfold ab
    by_cases h : 0 < q
    · have h2 := Int64.lt_iff_toInt_lt.mp h
      rw [show (0 : Int64).toInt = 0 from rfl] at h2
      rw [if_pos h, if_pos h2]
    · have h2 : ¬ 0 < q.toInt := fun z => h (Int64.lt_iff_toInt_lt.mpr z)
      rw [if_neg h, if_neg h2, hn]
  constructor
  · intro h
    rw [if_neg]
    rw [Int64.lt_iff_toInt_lt, e]
    rw [Int64.lt_iff_toInt_lt, Int64.lt_iff_toInt_lt, hn] at h
    split <;> omega
  · intro h
    have h1 : ¬ g.toInt < q.toInt := fun z => h (Or.inl (Int64.lt_iff_toInt_lt.mpr z))
    have h2 : ¬ g.toInt < -q.toInt := fun z => h (Or.inr (Int64.lt_iff_toInt_lt.mpr (by rw [hn]; exact z)))
    by_cases z : ab q < g
    · rw [if_pos z]
    · rw [if_neg z]
      apply Int64.toInt_inj.mp
      have z : ¬ (ab q).toInt < g.toInt := fun y => z (Int64.lt_iff_toInt_lt.mpr y)
      rw [e] at z ⊢
      split at z <;> omega
/-- how fast the lift grows with the angle -/
def spS (T : Tx) (w : Nat) (a : Nat → Int64) : Nat → Int64 := sm (fun i => (T 92 (10 * w + i)).toInt64 * (lwT T (T 93 (10 * w + i)).toNatClampNeg (a i + 1) - lwT T (T 93 (10 * w + i)).toNatClampNeg (a i - 1)))
/-- does it shake -/
def skS (T : Tx) (w : Nat) (v s : Int32) (ha : Nat → Int32) : Int32 := if rnR (evR T w v s ha) z0 = -2 then -2 else bI (grS (spS T w (anS (evR T w v s ha) (rnG (evR T w v s ha) z0)) (wN T w) * v.toInt64 * v.toInt64) (T 91 (4 * w + 1)).toInt64 (T 91 (4 * w + 2)).toInt64 (T 91 (4 * w + 3)).toInt64)
theorem c_shakesAt (Ω : Om) (M : Mem) (o : Option Nat) (x : Int32) (t w : Nat) (v s : Int32) (K : Ka) (hY : RwY M o x t w) (h90 : pg M t 90 w = 1) (hS : Sta M)
    (hK : ∀ M', Un wSo M M' → K (some (vI (skS (pg M t) w v s (pg M t 83)))) M') : CallS Ω true m_Trials_shakesAt [vR (some (9, 0)), vR (some (7, t)), vR (some (10, 4 * t + w)), vI v, vI s] M K := by
  obtain ⟨hW, hC, hL, h44, -⟩ := hY.ok
  obtain ⟨hn1, hn2, hn3, hst⟩ := hW.n
  refine call_go (hJL rfl) (Nat.le_of_ble_eq_true rfl) (go_wp ok_Trials_shakesAt [44] 250 _ _ _ _ _ _ ?_)
  conv => whnf
  generalize hE : evR (pg M t) w v s (pg M t 83) = E at *
  have hq := cr2 Ω M t w v s hW hC hL h44 hS (fun M' => Un wSo M M' ∧ mI M' 2 0 4 = nI (wN (pg M t) w) ∧ (¬ rnR E z0 = -2 → ∀ i, i < wN (pg M t) w → mJ M' 26 0 i = anS E (rnG E z0) i)) (fun M' q1 q2 q3 q4 => ⟨q1, q2.2.2.2.1, fun z i hi => by rw [hE] at q4; exact (q4 z i hi).2.2.2⟩)
  rw [hE] at hq
  unfold skS at hK
  rw [hE] at hK
  obtain ⟨K0, c0, -, c1⟩ := hq
  refine ⟨K0, c0, trivial, ?_⟩
  intro r M2 hr
  obtain ⟨rfl, K1, c2, -, c3⟩ := c1 r M2 hr
  conv => whnf
  refine ⟨K1, c2, trivial, ?_⟩
  intro r M3 hr
  obtain ⟨rfl, q1, q2, q3⟩ := c3 r M3 hr
  have hK := hK M3 q1
  refine And.intro (fun z => ?_) (fun z => ?_)
  · rw [if_neg z] at hK
    have q3 := q3 z
    generalize anS E (rnG E z0) = a at q3 hK
    have hX := q1.mono sc_So
    have hC3 := hC.un hX (fun _ _ => rfl) (fun k i s h1 h2 => by rcases (show k = 57 ∨ k = 58 ∨ k = 59 ∨ k = 60 ∨ k = 61 ∨ k = 62 by omega) with rfl | rfl | rfl | rfl | rfl | rfl <;> rfl)
    conv => whnf
    refine upN (wN (pg M t) w) (fun j => ∀ r8 r9 r10 r11 : Option Vl, GoS Ω true m_Trials_shakesAt K 44 [some (vR (some (9, 0))), some (vR (some (7, t))), some (vR (some (10, 4 * t + w))), some (vI v), some (vI s), some (vJ (spS (pg M t) w a j)), none, some (vI (nI j)), r8, r9, r10, r11] [] M3 0 0) ?_ ?_ 0 (Nat.zero_le _) none none none none
    · intro j hj hN r8 r9 r10 r11
      have hw := hC3.2.2.2.2.1 j hj
      obtain ⟨-, ⟨k, hk, ek, hLk⟩, -⟩ := hst j hj
      have hcl : ClL M3 t k (pg M t) := (hL j hj k hk (Or.inl ek)).un hX (fun _ _ => rfl) (fun _ _ => rfl) (fun _ _ => rfl)
      refine go_wp ok_Trials_shakesAt [44] 250 _ _ _ _ _ _ ?_
      refine And.intro (fun b => ?_) (fun _ => ?_)
      · rw [q2, nI_leI (by omega) (by omega)] at b; omega
      conv => whnf
      refine And.intro (vp_in_nI (by omega) (by decide)) ?_
      rw [nI_clamp (by omega), q3 j hj]
      conv => whnf
      refine And.intro (vp_in_nI (by omega) (by decide)) ?_
      rw [nI_clamp (by omega), hw.2.1, ek]
      refine cl_use (fun K h => c_lawValue Ω M3 t k (pg M t) (a j + 1) K hk hcl hLk h) trivial ?_
      conv => whnf
      refine And.intro (vp_in_nI (by omega) (by decide)) ?_
      rw [nI_clamp (by omega), hw.2.1, ek]
      refine cl_use (fun K h => c_lawValue Ω M3 t k (pg M t) (a j - 1) K hk hcl hLk h) trivial ?_
      conv => whnf
      refine And.intro (vp_in_nI (by omega) (by decide)) ?_
      rw [nI_clamp (by omega), hw.1]
      have := hN (some (vJ (a j))) none (some (vJ (lwT (pg M t) k (a j + 1) - lwT (pg M t) k (a j - 1)))) none
      rw [spS, sm, ek, nI_clamp (by omega), ← nI_1] at this
      exact this
    · intro r8 r9 r10 r11
      refine go_wp ok_Trials_shakesAt [] 250 _ _ _ _ _ _ ?_
      refine And.intro (fun _ => ?_) (fun b => ?_)
      · conv => whnf
        refine cl_use (fun K h => c_isGrowing Ω M3 (4 * t + w) (fun j => pg M t 91 (4 * w + j)) _ K (fun j hj => hC3.2.2.2.2.2.2 h90 j hj) h) trivial ?_
        refine br_bz (fun c => ?_) (fun c => ?_)
        · rw [c] at hK; exact hK
        · rw [c] at hK; exact hK
      · rw [q2, nI_leI (by omega) (by omega)] at b; omega
  · rw [if_pos z] at hK
    exact hK
