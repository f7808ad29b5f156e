/-! FITS: a text and a run, in both -/
def zI : Nat → Int32 := fun _ => 0
def ab (x : Int64) : Int64 := if 0 < x then x else -x
def fiS (T : Tx) (nw w : Nat) (v s l wl : Int32) : Bool := decide (w < nw) && (!(decide (rL T w v s zI = -1000000000000)) && decide (ab (rL T w v s zI - rgS l wl) ≤ ab (rgS l wl) / 10 + 20))
theorem ab_m (x : Int64) : (if x < 0 then -x else x) = ab x := by
  unfold ab
  by_cases h : x < 0
  · rw [if_pos h, if_neg (fun q => Int64.lt_irrefl (Int64.lt_trans h q))]
  · rw [if_neg h]
    by_cases g : 0 < x
    · rw [if_pos g]
    · rw [if_neg g]
      have : x = 0 := Int64.le_antisymm (Int64.not_lt.mp g) (Int64.not_lt.mp h)
      rw [this]; rfl
theorem rg_bd {l w : Int32} (hl : -1000000 ≤ l.toInt ∧ l.toInt ≤ 1000000) (hw : 0 ≤ w.toInt ∧ w.toInt ≤ 500) : (rgS l w).toInt32.toInt64 = rgS l w := by
  have e1 : (l.toInt64 * 1000).toInt = l.toInt * 1000 := by rw [J_mul (by rw [I_l, show (1000 : Int64).toInt = 1000 from rfl]; omega), I_l]; rfl
  have e2 : ((1000 : Int64) + w.toInt64).toInt = 1000 + w.toInt := by rw [J_add (by rw [I_l, show (1000 : Int64).toInt = 1000 from rfl]; omega), I_l]; rfl
  have e3 : (rgS l w).toInt = (l.toInt * 1000).tdiv (1000 + w.toInt) := by
    unfold rgS
    rw [J_div (by rw [e1]; omega), e1, e2]
  have h : ((l.toInt * 1000).tdiv (1000 + w.toInt)).natAbs ≤ (l.toInt * 1000).natAbs := by
    rw [Int.natAbs_tdiv]; exact Nat.div_le_self _ _
  have h2 : -1000000000 ≤ (rgS l w).toInt ∧ (rgS l w).toInt ≤ 1000000000 := by rw [e3]; omega
  apply Int64.toInt_inj.mp
  rw [I_l]
  rw [Int64.toInt_toInt32]
  exact Int.bmod_eq_of_le (by omega) (by omega)
/-- a run's row in the class -/
def RuC (M : Mem) (r w : Nat) (v s l wl : Int32) : Prop := mI M 31 0 r = nI w ∧ mI M 32 0 r = v ∧ mI M 33 0 r = s ∧ mI M 34 0 r = l ∧ mI M 35 0 r = wl
def RuM (M : Mem) (r w : Nat) (v s l wl : Int32) : Prop := mI M 135 0 r = nI w ∧ mI M 136 0 r = v ∧ mI M 137 0 r = s ∧ mI M 138 0 r = l ∧ mI M 139 0 r = wl
def RuB (w : Nat) (v s l wl : Int32) : Prop := w < 4 ∧ (1 ≤ v.toInt ∧ v.toInt ≤ 40) ∧ (-30 ≤ s.toInt ∧ s.toInt ≤ 30) ∧ (-1000000 ≤ l.toInt ∧ l.toInt ≤ 1000000) ∧ 0 ≤ wl.toInt ∧ wl.toInt ≤ 500
theorem TxC.w {M : Mem} {t nl nh nw nb : Nat} {Ls : Nat → List Lt} (h : TxC M t nl nh nw nb Ls) {w : Nat} (hw : w < nw) : WgOK (pg M t) w ∧ ClW M t w (pg M t) ∧ ClS M t w (pg M t) := by
  obtain ⟨hO, hC, -⟩ := h
  exact ⟨(hO.2.2.2.2.2.2.2.2 w hw).1, hC.2.2.2.2.2.2.2 w hw, fun i hi k hk q => hC.2.2.2.2.1 k ((hO.2.2.2.2.2.2.2.2 w hw).2 i hi k hk q)⟩
theorem c_isFit (Ω : Om) (M : Mem) (t r w nl nh nw nb : Nat) (Ls : Nat → List Lt) (v s l wl : Int32) (K : Ka) (hr : r < 60) (hX : TxC M t nl nh nw nb Ls) (hS : Sta M) (hR : RuC M r w v s l wl) (hB : RuB w v s l wl)
    (hK : ∀ M', Un wSo M M' → K (some (vI (bI (fiS (pg M t) nw w v s l wl)))) M') : CallS Ω true m_Runs_isFit [vR (some (5, 0)), vR (some (7, t)), vI (nI r)] M K := by
  obtain ⟨r1, r2, r3, r4, r5⟩ := hR
  obtain ⟨b1, b2, b3, b4, b5⟩ := hB
  have l3 := hX.1.2.2.2.2.1.2.2.1
  refine call_go (hJL rfl) (Nat.le_of_ble_eq_true rfl) (go_wp ok_Runs_isFit [] 250 _ _ _ _ _ _ ?_)
  refine And.intro (fun a => absurd a (nI_pos (by omega))) (fun _ => And.intro (fun _ => ?_) (fun a => absurd (show nI r < (60 : Int32) from nI_lt (b := 60) hr (by decide)) a))
  conv => whnf
  refine And.intro (vp_in_nI (by omega) (by decide)) ?_
  rw [nI_clamp (by omega), r1]
  by_cases hw : w < nw
  · obtain ⟨hW, hC, hL⟩ := hX.w hw
    refine cl_use (fun K h => c_wingNum1 Ω M t nw w K l3 hX.2.1.2.2.1 hw h) trivial ?_
    conv => whnf
    refine And.intro (vp_in_nI (by omega) (by decide)) ?_
    conv => whnf
    refine And.intro (vp_in_nI (by omega) (by decide)) ?_
    rw [nI_clamp (by omega), r2, r3]
    refine ⟨fun q M' => q = some (vJ (rL (pg M t) w v s zI)) ∧ Un wSo M M', c_restL Ω M t w 36 0 (pg M t) v s zI _ hW hC hL hS rfl (fun _ => rfl) (fun h h4 => hS.2.1 h h4) (fun M' a => ⟨rfl, a⟩), trivial, ?_⟩
    rintro q M1 ⟨rfl, hU⟩
    conv => whnf
    refine cl_use (fun K h => c_putRight Ω M1 r l wl K hr ((hU.I rfl).trans r4) ((hU.I rfl).trans r5) b5 h) trivial ?_
    have hK := hK M1 hU
    unfold fiS at hK
    rw [decide_eq_true hw, Bool.true_and] at hK
    refine And.intro (fun e => ?_) (fun e => ?_)
    · have e := (lg_cmp_eq _ _).mp e
      rw [decide_eq_true e] at hK
      exact ⟨Or.inl rfl, hK⟩
    · have e : ¬ rL (pg M t) w v s zI = -1000000000000 := fun q => e ((lg_cmp_eq _ _).mpr q)
      rw [decide_eq_false e, Bool.not_false, Bool.true_and] at hK
      conv => whnf
      refine And.intro (show ¬ (10 : Int64) = 0 by decide) ?_
      refine And.intro (fun e2 => ?_) (fun e2 => ?_)
      · have e2 := (lg_cmp_gt _ _).mp e2
        rw [decide_eq_false (show ¬ ab (rL (pg M t) w v s zI - rgS l wl) ≤ ab (rgS l wl) / 10 + 20 from Int64.not_le.mpr e2)] at hK
        exact ⟨Or.inl rfl, hK⟩
      · have e2 : ¬ _ < _ := fun q => e2 ((lg_cmp_gt _ _).mpr q)
        rw [decide_eq_true (show ab (rL (pg M t) w v s zI - rgS l wl) ≤ ab (rgS l wl) / 10 + 20 from Int64.not_lt.mp e2)] at hK
        exact ⟨Or.inr rfl, hK⟩
  · refine cl_use (fun K h => c_wingNum0 Ω M t nw (nI w) K l3 hX.2.1.2.2.1 (fun w' hw' e => by rw [nI_eq (by omega) (by omega)] at e; omega) h) trivial ?_
    have hK := hK M Un.rfl
    unfold fiS at hK
    rw [decide_eq_false hw, Bool.false_and] at hK
    exact ⟨Or.inl rfl, hK⟩
set_option maxRecDepth 8000 in
theorem c_flies (Ω : Om) (M : Mem) (t w nl nh nw nb : Nat) (Ls : Nat → List Lt) (v s : Int32) (K : Ka) (ht : t < 4) (hw4 : w < 4) (hX : TxC M t nl nh nw nb Ls)
    (h0 : ¬ w < nw → K (some (vI 0)) M)
    (h1 : w < nw → ∀ M', Un wM M M' → Un wX M M' → rnR (evR (pg M t) w v s zI) z0 = -2 → K (some (vI 0)) M')
    (h2 : w < nw → ∀ M', Un wM M M' → Un wX M M' → ¬ rnR (evR (pg M t) w v s zI) z0 = -2 → mI M' 12 0 72 = nI (wN (pg M t) w) → mI M' 12 0 73 = v → (∀ i, i < wN (pg M t) w → mJ M' 113 0 i = rnG (evR (pg M t) w v s zI) z0 i) → K (some (vI 1)) M') :
    CallS Ω true m_MD_flies [vR (some (12, 0)), vI (nI t), vI (nI w), vI v, vI s] M K := by
  have l3 := hX.1.2.2.2.2.1.2.2.1
  refine call_go (hJL rfl) (Nat.le_of_ble_eq_true rfl) (go_wp ok_MD_flies [] 250 _ _ _ _ _ _ ?_)
  conv => whnf
  refine And.intro (vp_in_nI (by omega) (by decide)) ?_
  rw [nI_clamp (by omega), (pg1 (M := M) (f := 84) (p := t) rfl rfl).trans hX.1.2.2.1]
  refine And.intro (fun a => ?_) (fun a => ?_)
  · rw [nI_ltI (by omega) (by omega)] at a
    obtain ⟨hW, hC, hL⟩ := hX.w a
    conv => whnf
    rw [show (4 : Int32) = nI 4 from rfl, pk_mul, nI_add]
    obtain ⟨K0, c0, -, c1⟩ := mr3 Ω M t w v s 0 zI ht hw4 hW (Or.inl rfl) (hxS0 _) (fun M' => Un wM M M' ∧ Un wX M M' ∧ (¬ rnR (evR (pg M t) w v s zI) z0 = -2 → mI M' 12 0 72 = nI (wN (pg M t) w) ∧ mI M' 12 0 73 = v ∧ ∀ i, i < wN (pg M t) w → mJ M' 113 0 i = rnG (evR (pg M t) w v s zI) z0 i)) (fun M' q1 q2 q3 q4 q5 q6 => ⟨q1, q2, fun z => ⟨q5, q6, fun i hi => (q3 z i hi).1⟩⟩)
    refine ⟨K0, c0, trivial, ?_⟩
    intro r M1 hr
    obtain ⟨rfl, K1, c2, -, c3⟩ := c1 r M1 hr
    conv => whnf
    refine ⟨K1, c2, trivial, ?_⟩
    intro r M2 hr
    obtain ⟨rfl, K2, c4, -, c5⟩ := c3 r M2 hr
    conv => whnf
    refine ⟨K2, c4, trivial, ?_⟩
    intro r M3 hr
    obtain ⟨rfl, q1, q2, q3⟩ := c5 r M3 hr
    refine And.intro (fun z => ?_) (fun z => ?_)
    · exact ⟨Or.inl rfl, h1 a M3 q1 q2 z⟩
    · obtain ⟨q4, q5, q6⟩ := q3 z
      exact ⟨Or.inr rfl, h2 a M3 q1 q2 z q4 q5 q6⟩
  · rw [nI_ltI (by omega) (by omega)] at a
    exact ⟨Or.inl rfl, h0 a⟩
set_option maxRecDepth 8000 in
theorem c_MD_isFit (Ω : Om) (M : Mem) (t r w nl nh nw nb : Nat) (Ls : Nat → List Lt) (v s l wl : Int32) (K : Ka) (ht : t < 4) (hr : r < 60) (hX : TxC M t nl nh nw nb Ls) (hR : RuM M r w v s l wl) (hB : RuB w v s l wl)
    (hK : ∀ M', Un wM M M' → Un wX M M' → K (some (vI (bI (fiS (pg M t) nw w v s l wl)))) M') : CallS Ω true m_MD_isFit [vR (some (12, 0)), vI (nI t), vI (nI r)] M K := by
  obtain ⟨r1, r2, r3, r4, r5⟩ := hR
  obtain ⟨b1, b2, b3, b4, b5⟩ := hB
  refine call_go (hJL rfl) (Nat.le_of_ble_eq_true rfl) (go_wp ok_MD_isFit [56, 70] 250 _ _ _ _ _ _ ?_)
  conv => whnf
  refine And.intro (vp_in_nI (by omega) (by decide)) ?_
  conv => whnf
  refine And.intro (vp_in_nI (by omega) (by decide)) ?_
  conv => whnf
  refine And.intro (vp_in_nI (by omega) (by decide)) ?_
  rw [nI_clamp (by omega), r1, r2, r3]
  refine ⟨fun q M' => (q = some (vI 0) ∧ Un wM M M' ∧ Un wX M M' ∧ fiS (pg M t) nw w v s l wl = false) ∨ (q = some (vI 1) ∧ Un wM M M' ∧ Un wX M M' ∧ w < nw ∧ ¬ rnR (evR (pg M t) w v s zI) z0 = -2 ∧ mI M' 12 0 72 = nI (wN (pg M t) w) ∧ mI M' 12 0 73 = v ∧ ∀ i, i < wN (pg M t) w → mJ M' 113 0 i = rnG (evR (pg M t) w v s zI) z0 i), c_flies Ω M t w nl nh nw nb Ls v s _ ht b1 hX (fun a => Or.inl ⟨rfl, Un.rfl, Un.rfl, ?_⟩) (fun a M' q1 q2 z => Or.inl ⟨rfl, q1, q2, ?_⟩) (fun a M' q1 q2 z q3 q4 q5 => Or.inr ⟨rfl, q1, q2, a, z, q3, q4, q5⟩), trivial, ?_⟩
  · unfold fiS; rw [decide_eq_false a, Bool.false_and]
  · unfold fiS; rw [decide_eq_true ((rL_no (hX.w a).1 b2).mpr z)]; simp
  rintro q M1 (⟨rfl, q1, q2, hf⟩ | ⟨rfl, q1, q2, hw, hz, q3, q4, q5⟩)
  · refine And.intro (fun e => absurd rfl e) (fun _ => ?_)
    have := hK M1 q1 q2
    rw [hf] at this
    exact ⟨Or.inl rfl, this⟩
  refine And.intro (fun _ => ?_) (fun e => absurd e (by decide))
  conv => whnf
  refine cl_use (fun K h => c_rightOf Ω M1 r l wl K hr ((q2.I rfl).trans r4) ((q2.I rfl).trans r5) b5 h) trivial ?_
  conv => whnf
  rw [rg_bd b4 b5]
  have hn3 := (hX.w hw).1.n.2.2.1
  refine cl_use (fun K h => c_MD_flift Ω M1 _ v _ K hn3 q3 q4 q5 h) trivial ?_
  conv => whnf
  rw [← rL_yes hz]
  have hK := hK M1 q1 q2
  unfold fiS at hK
  rw [decide_eq_true hw, Bool.true_and, decide_eq_false (fun e => hz ((rL_no (hX.w hw).1 b2).mp e)), Bool.not_false, Bool.true_and] at hK
  generalize rL (pg M t) w v s zI = X at hK
  generalize rgS l wl = R at hK
  -- behind both absolute values
  have last : ∀ (f y : Int64), f = ab (X - R) → y = ab R → GoS Ω true m_MD_isFit K 70 [some (vR (some (12, 0))), some (vI (nI t)), some (vI (nI r)), some (vJ R), none, some (vJ f), none] [vJ y, vJ f] M1 0 0 := by
    rintro f y rfl rfl
    refine go_wp ok_MD_isFit [] 250 _ _ _ _ _ _ ?_
    refine And.intro (show ¬ (10 : Int64) = 0 by decide) ?_
    refine And.intro (fun e2 => ?_) (fun e2 => ?_)
    · have e2 := (lg_cmp_gt _ _).mp e2
      rw [decide_eq_false (show ¬ ab (X - R) ≤ ab R / 10 + 20 from Int64.not_le.mpr e2)] at hK
      exact ⟨Or.inl rfl, hK⟩
    · have e2 : ¬ _ < _ := fun q => e2 ((lg_cmp_gt _ _).mpr q)
      rw [decide_eq_true (show ab (X - R) ≤ ab R / 10 + 20 from Int64.not_lt.mp e2)] at hK
      exact ⟨Or.inr rfl, hK⟩
  have mid : ∀ (f : Int64), f = ab (X - R) → GoS Ω true m_MD_isFit K 56 [some (vR (some (12, 0))), some (vI (nI t)), some (vI (nI r)), some (vJ R), none, some (vJ f), none] [] M1 0 0 := by
    intro f hf
    refine go_wp ok_MD_isFit [70] 250 _ _ _ _ _ _ ?_
    refine And.intro (fun e => ?_) (fun e => ?_)
    · have e := (lg_cmp_ge _ _).mp e
      conv => whnf
      exact last f R hf (by rw [← ab_m, if_neg (Int64.not_lt.mpr e)])
    · have e : R < 0 := Int64.not_le.mp (fun q => e ((lg_cmp_ge _ _).mpr q))
      conv => whnf
      exact last f (-R) hf (by rw [← ab_m, if_pos e])
  refine And.intro (fun e => ?_) (fun e => ?_)
  · have e := (lg_cmp_ge _ _).mp e
    conv => whnf
    exact mid (X - R) (by rw [← ab_m, if_neg (Int64.not_lt.mpr e)])
  · have e : X - R < 0 := Int64.not_le.mp (fun q => e ((lg_cmp_ge _ _).mpr q))
    conv => whnf
    exact mid (-(X - R)) (by rw [← ab_m, if_pos e])
