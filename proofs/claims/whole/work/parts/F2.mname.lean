/-! READ: the model's reader: a name, whether it was told before -/
def anyN (f : Nat → Int64) (x : Int64) : Nat → Bool
  | 0 => false
  | j + 1 => anyN f x j || decide (f j = x)
theorem anyN_eq {f : Nat → Int64} {x : Int64} : ∀ {c : Nat}, anyN f x c = true ↔ ∃ j, j < c ∧ f j = x := by
  intro c
  induction c with
  | zero => exact ⟨fun h => (by cases h), fun ⟨j, h, _⟩ => absurd h (Nat.not_lt_zero _)⟩
  | succ c ih =>
    rw [anyN, Bool.or_eq_true, ih, decide_eq_true_eq]
    refine ⟨fun h => ?_, fun ⟨j, h1, h2⟩ => ?_⟩
    · rcases h with ⟨j, h1, h2⟩ | h
      · exact ⟨j, by omega, h2⟩
      · exact ⟨c, by omega, h⟩
    · by_cases e : j = c
      · rw [e] at h2; exact Or.inr h2
      · exact Or.inl ⟨j, by omega, h2⟩
set_option maxHeartbeats 1000000 in
theorem nd_law {Ω : Om} {K : Ka} {M : Mem} {i p c : Nat} {x : Int64} {b0 : Bool} (hp : p < 4) (h20 : mI M 12 0 20 = nI p) (hc : mI M 74 0 p = nI c) (hc8 : c ≤ 8)
    (hN : GoS Ω true m_MD_named K 84 [some (vR (some (12, 0))), some (vI (nI i)), some (vJ x), none, some (vI (bI (b0 || anyN (fun k => mJ M 75 0 (8 * p + k)) x c))), some (vI (nI c))] [] M 0 0) :
    ∀ m j, j + m = c → GoS Ω true m_MD_named K 32 [some (vR (some (12, 0))), some (vI (nI i)), some (vJ x), none, some (vI (bI (b0 || anyN (fun k => mJ M 75 0 (8 * p + k)) x j))), some (vI (nI j))] [] M 0 0 := by
  intro m
  induction m with
  | zero =>
    intro j hj
    refine go_wp ok_MD_named [84] 250 _ _ _ _ _ _ ?_
    conv => whnf
    rw [h20]
    refine And.intro (vp_in_nI (by omega) (by decide)) ?_
    rw [nI_clamp (by omega), hc]
    refine And.intro (fun _ => ?_) (fun q => ?_)
    · rw [show j = c by omega]
      exact hN
    · rw [nI_leI (by omega) (by omega)] at q
      omega
  | succ m ih =>
    intro j hj
    refine go_wp ok_MD_named [32, 84] 250 _ _ _ _ _ _ ?_
    conv => whnf
    rw [h20]
    refine And.intro (vp_in_nI (by omega) (by decide)) ?_
    rw [nI_clamp (by omega), hc]
    refine And.intro (fun q => ?_) (fun _ => ?_)
    · rw [nI_leI (by omega) (by omega)] at q
      omega
    have ih := ih (j + 1) (by omega)
    rw [anyN] at ih
    conv => whnf
    generalize anyN (fun k => mJ M 75 0 (8 * p + k)) x j = b1 at ih
    cases hb : (b0 || b1) with
    | true =>
      rw [← Bool.or_assoc, hb, Bool.true_or] at ih
      refine And.intro (fun _ => ?_) (fun z => absurd z (by decide))
      conv => whnf
      rw [nI_1]
      exact ih
    | false =>
      rw [← Bool.or_assoc, hb, Bool.false_or] at ih
      refine And.intro (fun z => absurd rfl z) (fun _ => ?_)
      conv => whnf
      rw [h20, show (8 : Int32) = nI 8 from rfl, pk_mul, nI_add]
      refine And.intro (vp_in_nI (by omega) (by decide)) ?_
      rw [nI_clamp (by omega)]
      refine And.intro (fun q => ?_) (fun q => ?_)
      · have q : ¬ mJ M 75 0 (8 * p + j) = x := fun z => q ((lg_cmp_eq _ _).mpr z)
        rw [decide_eq_false q] at ih
        conv => whnf
        rw [nI_1]
        exact ih
      · have q : mJ M 75 0 (8 * p + j) = x := (lg_cmp_eq _ _).mp q
        rw [decide_eq_true q] at ih
        conv => whnf
        rw [nI_1]
        exact ih
set_option maxHeartbeats 1000000 in
theorem nd_hin {Ω : Om} {K : Ka} {M : Mem} {i p c : Nat} {x : Int64} {b0 : Bool} (hp : p < 4) (h20 : mI M 12 0 20 = nI p) (hc : mI M 80 0 p = nI c) (hc8 : c ≤ 4)
    (hN : GoS Ω true m_MD_named K 138 [some (vR (some (12, 0))), some (vI (nI i)), some (vJ x), none, some (vI (bI (b0 || anyN (fun k => mJ M 81 0 (4 * p + k)) x c))), some (vI (nI c))] [] M 0 0) :
    ∀ m j, j + m = c → GoS Ω true m_MD_named K 87 [some (vR (some (12, 0))), some (vI (nI i)), some (vJ x), none, some (vI (bI (b0 || anyN (fun k => mJ M 81 0 (4 * p + k)) x j))), some (vI (nI j))] [] M 0 0 := by
  intro m
  induction m with
  | zero =>
    intro j hj
    refine go_wp ok_MD_named [138] 250 _ _ _ _ _ _ ?_
    conv => whnf
    rw [h20]
    refine And.intro (vp_in_nI (by omega) (by decide)) ?_
    rw [nI_clamp (by omega), hc]
    refine And.intro (fun _ => ?_) (fun q => ?_)
    · rw [show j = c by omega]
      exact hN
    · rw [nI_leI (by omega) (by omega)] at q
      omega
  | succ m ih =>
    intro j hj
    refine go_wp ok_MD_named [87, 138] 250 _ _ _ _ _ _ ?_
    conv => whnf
    rw [h20]
    refine And.intro (vp_in_nI (by omega) (by decide)) ?_
    rw [nI_clamp (by omega), hc]
    refine And.intro (fun q => ?_) (fun _ => ?_)
    · rw [nI_leI (by omega) (by omega)] at q
      omega
    have ih := ih (j + 1) (by omega)
    rw [anyN] at ih
    conv => whnf
    generalize anyN (fun k => mJ M 81 0 (4 * p + k)) x j = b1 at ih
    cases hb : (b0 || b1) with
    | true =>
      rw [← Bool.or_assoc, hb, Bool.true_or] at ih
      refine And.intro (fun _ => ?_) (fun z => absurd z (by decide))
      conv => whnf
      rw [nI_1]
      exact ih
    | false =>
      rw [← Bool.or_assoc, hb, Bool.false_or] at ih
      refine And.intro (fun z => absurd rfl z) (fun _ => ?_)
      conv => whnf
      rw [h20, show (4 : Int32) = nI 4 from rfl, pk_mul, nI_add]
      refine And.intro (vp_in_nI (by omega) (by decide)) ?_
      rw [nI_clamp (by omega)]
      refine And.intro (fun q => ?_) (fun q => ?_)
      · have q : ¬ mJ M 81 0 (4 * p + j) = x := fun z => q ((lg_cmp_eq _ _).mpr z)
        rw [decide_eq_false q] at ih
        conv => whnf
        rw [nI_1]
        exact ih
      · have q : mJ M 81 0 (4 * p + j) = x := (lg_cmp_eq _ _).mp q
        rw [decide_eq_true q] at ih
        conv => whnf
        rw [nI_1]
        exact ih
set_option maxHeartbeats 1000000 in
theorem nd_win {Ω : Om} {K : Ka} {M : Mem} {i p c : Nat} {x : Int64} {b0 : Bool} (hp : p < 4) (h20 : mI M 12 0 20 = nI p) (hc : mI M 84 0 p = nI c) (hc8 : c ≤ 4)
    (hN : GoS Ω true m_MD_named K 192 [some (vR (some (12, 0))), some (vI (nI i)), some (vJ x), none, some (vI (bI (b0 || anyN (fun k => mJ M 85 0 (4 * p + k)) x c))), some (vI (nI c))] [] M 0 0) :
    ∀ m j, j + m = c → GoS Ω true m_MD_named K 141 [some (vR (some (12, 0))), some (vI (nI i)), some (vJ x), none, some (vI (bI (b0 || anyN (fun k => mJ M 85 0 (4 * p + k)) x j))), some (vI (nI j))] [] M 0 0 := by
  intro m
  induction m with
  | zero =>
    intro j hj
    refine go_wp ok_MD_named [192] 250 _ _ _ _ _ _ ?_
    conv => whnf
    rw [h20]
    refine And.intro (vp_in_nI (by omega) (by decide)) ?_
    rw [nI_clamp (by omega), hc]
    refine And.intro (fun _ => ?_) (fun q => ?_)
    · rw [show j = c by omega]
      exact hN
    · rw [nI_leI (by omega) (by omega)] at q
      omega
  | succ m ih =>
    intro j hj
    refine go_wp ok_MD_named [141, 192] 250 _ _ _ _ _ _ ?_
    conv => whnf
    rw [h20]
    refine And.intro (vp_in_nI (by omega) (by decide)) ?_
    rw [nI_clamp (by omega), hc]
    refine And.intro (fun q => ?_) (fun _ => ?_)
    · rw [nI_leI (by omega) (by omega)] at q
      omega
    have ih := ih (j + 1) (by omega)
    rw [anyN] at ih
    conv => whnf
    generalize anyN (fun k => mJ M 85 0 (4 * p + k)) x j = b1 at ih
    cases hb : (b0 || b1) with
    | true =>
      rw [← Bool.or_assoc, hb, Bool.true_or] at ih
      refine And.intro (fun _ => ?_) (fun z => absurd z (by decide))
      conv => whnf
      rw [nI_1]
      exact ih
    | false =>
      rw [← Bool.or_assoc, hb, Bool.false_or] at ih
      refine And.intro (fun z => absurd rfl z) (fun _ => ?_)
      conv => whnf
      rw [h20, show (4 : Int32) = nI 4 from rfl, pk_mul, nI_add]
      refine And.intro (vp_in_nI (by omega) (by decide)) ?_
      rw [nI_clamp (by omega)]
      refine And.intro (fun q => ?_) (fun q => ?_)
      · have q : ¬ mJ M 85 0 (4 * p + j) = x := fun z => q ((lg_cmp_eq _ _).mpr z)
        rw [decide_eq_false q] at ih
        conv => whnf
        rw [nI_1]
        exact ih
      · have q : mJ M 85 0 (4 * p + j) = x := (lg_cmp_eq _ _).mp q
        rw [decide_eq_true q] at ih
        conv => whnf
        rw [nI_1]
        exact ih
set_option maxHeartbeats 1000000 in
theorem nd_bar {Ω : Om} {K : Ka} {M : Mem} {i p c : Nat} {x : Int64} {b0 : Bool} (hp : p < 4) (h20 : mI M 12 0 20 = nI p) (hc : mI M 97 0 p = nI c) (hc8 : c ≤ 8)
    (hN : GoS Ω true m_MD_named K 247 [some (vR (some (12, 0))), some (vI (nI i)), some (vJ x), none, some (vI (bI (b0 || anyN (fun k => mJ M 98 0 (8 * p + k)) x c))), some (vI (nI c))] [] M 0 0) :
    ∀ m j, j + m = c → GoS Ω true m_MD_named K 195 [some (vR (some (12, 0))), some (vI (nI i)), some (vJ x), none, some (vI (bI (b0 || anyN (fun k => mJ M 98 0 (8 * p + k)) x j))), some (vI (nI j))] [] M 0 0 := by
  intro m
  induction m with
  | zero =>
    intro j hj
    refine go_wp ok_MD_named [247] 250 _ _ _ _ _ _ ?_
    conv => whnf
    rw [h20]
    refine And.intro (vp_in_nI (by omega) (by decide)) ?_
    rw [nI_clamp (by omega), hc]
    refine And.intro (fun _ => ?_) (fun q => ?_)
    · rw [show j = c by omega]
      exact hN
    · rw [nI_leI (by omega) (by omega)] at q
      omega
  | succ m ih =>
    intro j hj
    refine go_wp ok_MD_named [195, 247] 250 _ _ _ _ _ _ ?_
    conv => whnf
    rw [h20]
    refine And.intro (vp_in_nI (by omega) (by decide)) ?_
    rw [nI_clamp (by omega), hc]
    refine And.intro (fun q => ?_) (fun _ => ?_)
    · rw [nI_leI (by omega) (by omega)] at q
      omega
    have ih := ih (j + 1) (by omega)
    rw [anyN] at ih
    conv => whnf
    generalize anyN (fun k => mJ M 98 0 (8 * p + k)) x j = b1 at ih
    cases hb : (b0 || b1) with
    | true =>
      rw [← Bool.or_assoc, hb, Bool.true_or] at ih
      refine And.intro (fun _ => ?_) (fun z => absurd z (by decide))
      conv => whnf
      rw [nI_1]
      exact ih
    | false =>
      rw [← Bool.or_assoc, hb, Bool.false_or] at ih
      refine And.intro (fun z => absurd rfl z) (fun _ => ?_)
      conv => whnf
      rw [h20, show (8 : Int32) = nI 8 from rfl, pk_mul, nI_add]
      refine And.intro (vp_in_nI (by omega) (by decide)) ?_
      rw [nI_clamp (by omega)]
      refine And.intro (fun q => ?_) (fun q => ?_)
      · have q : ¬ mJ M 98 0 (8 * p + j) = x := fun z => q ((lg_cmp_eq _ _).mpr z)
        rw [decide_eq_false q] at ih
        conv => whnf
        rw [nI_1]
        exact ih
      · have q : mJ M 98 0 (8 * p + j) = x := (lg_cmp_eq _ _).mp q
        rw [decide_eq_true q] at ih
        conv => whnf
        rw [nI_1]
        exact ih
