/-! TURNS, XX: next -/
set_option maxRecDepth 8000 in
theorem c_MD_isFit4 (Ω : Om) (M : Mem) (t r w nl nh nw nb : Nat) (Ls : Nat → List Lt) (v s l wl : Int32) (K : Ka) (ht : t < 4) (hr : r < 60) (hX : TxC M t nl nh nw nb Ls) (hR : RuM M r w v s l wl) (hB : RuB w v s l wl)
    (hK : ∀ M', Un wQm M M' → Un wX M M' → K (some (vI (bI (fiS (pg M t) nw w v s l wl)))) M') : CallS Ω true m_MD_isFit [vR (some (12, 0)), vI (nI t), vI (nI r)] M K := by
  obtain ⟨r1, r2, r3, r4, r5⟩ := hR
  obtain ⟨b1, b2, b3, b4, b5⟩ := hB
  refine call_go (hJL rfl) (Nat.le_of_ble_eq_true rfl) (go_wp ok_MD_isFit [56, 70] 250 _ _ _ _ _ _ ?_)
  conv => whnf
  refine And.intro (vp_in_nI (by omega) (by decide)) ?_
  conv => whnf
  refine And.intro (vp_in_nI (by omega) (by decide)) ?_
  conv => whnf
  refine And.intro (vp_in_nI (by omega) (by decide)) ?_
  rw [nI_clamp (by omega), r1, r2, r3]
  refine ⟨fun q M' => (q = some (vI 0) ∧ Un wQm M M' ∧ Un wX M M' ∧ fiS (pg M t) nw w v s l wl = false) ∨ (q = some (vI 1) ∧ Un wQm M M' ∧ Un wX M M' ∧ w < nw ∧ ¬ rnR (evR (pg M t) w v s zI) z0 = -2 ∧ mI M' 12 0 72 = nI (wN (pg M t) w) ∧ mI M' 12 0 73 = v ∧ ∀ i, i < wN (pg M t) w → mJ M' 113 0 i = rnG (evR (pg M t) w v s zI) z0 i), c_flies4 Ω M t w nl nh nw nb Ls v s _ ht b1 hX (fun a => Or.inl ⟨rfl, Un.rfl, Un.rfl, ?_⟩) (fun a M' q1 q2 z => Or.inl ⟨rfl, q1, q2, ?_⟩) (fun a M' q1 q2 z q3 q4 q5 => Or.inr ⟨rfl, q1, q2, a, z, q3, q4, q5⟩), trivial, ?_⟩
  · unfold fiS; rw [decide_eq_false a, Bool.false_and]
  · unfold fiS; rw [decide_eq_true ((rL_no (hX.w a).1 b2).mpr z)]; simp
  rintro q M1 (⟨rfl, q1, q2, hf⟩ | ⟨rfl, q1, q2, hw, hz, q3, q4, q5⟩)
  · refine And.intro (fun e => absurd rfl e) (fun _ => ?_)
    have := hK M1 q1 q2
    rw [hf] at this
    exact ⟨Or.inl rfl, this⟩
  refine And.intro (fun _ => ?_) (fun e => absurd e (by decide))
  conv => whnf
  refine cl_use (fun K h => c_rightOf Ω M1 r l wl K hr ((q2.I rfl).trans r4) ((q2.I rfl).trans r5) b5 h) trivial ?_
  conv => whnf
  rw [rg_bd b4 b5]
  have hn3 := (hX.w hw).1.n.2.2.1
  refine cl_use (fun K h => c_MD_flift Ω M1 _ v _ K hn3 q3 q4 q5 h) trivial ?_
  conv => whnf
  rw [← rL_yes hz]
  have hK := hK M1 q1 q2
  unfold fiS at hK
  rw [decide_eq_true hw, Bool.true_and, decide_eq_false (fun e => hz ((rL_no (hX.w hw).1 b2).mp e)), Bool.not_false, Bool.true_and] at hK
  generalize rL (pg M t) w v s zI = X at hK
  generalize rgS l wl = R at hK
  -- behind both absolute values
  have last : ∀ (f y : Int64), f = ab (X - R) → y = ab R → GoS Ω true m_MD_isFit K 70 [some (vR (some (12, 0))), some (vI (nI t)), some (vI (nI r)), some (vJ R), none, some (vJ f), none] [vJ y, vJ f] M1 0 0 := by
    rintro f y rfl rfl
    refine go_wp ok_MD_isFit [] 250 _ _ _ _ _ _ ?_
    refine And.intro (show ¬ (10 : Int64) = 0 by decide) ?_
    refine And.intro (fun e2 => ?_) (fun e2 => ?_)
    · have e2 := (lg_cmp_gt _ _).mp e2
      rw [decide_eq_false (show ¬ ab (X - R) ≤ ab R / 10 + 20 from Int64.not_le.mpr e2)] at hK
      exact ⟨Or.inl rfl, hK⟩
    · have e2 : ¬ _ < _ := fun q => e2 ((lg_cmp_gt _ _).mpr q)
      rw [decide_eq_true (show ab (X - R) ≤ ab R / 10 + 20 from Int64.not_lt.mp e2)] at hK
      exact ⟨Or.inr rfl, hK⟩
  have mid : ∀ (f : Int64), f = ab (X - R) → GoS Ω true m_MD_isFit K 56 [some (vR (some (12, 0))), some (vI (nI t)), some (vI (nI r)), some (vJ R), none, some (vJ f), none] [] M1 0 0 := by
    intro f hf
    refine go_wp ok_MD_isFit [70] 250 _ _ _ _ _ _ ?_
    refine And.intro (fun e => ?_) (fun e => ?_)
    · have e := (lg_cmp_ge _ _).mp e
      conv => whnf
      exact last f R hf (by rw [← ab_m, if_neg (Int64.not_lt.mpr e)])
    · have e : R < 0 := Int64.not_le.mp (fun q => e ((lg_cmp_ge _ _).mpr q))
      conv => whnf
      exact last f (-R) hf (by rw [← ab_m, if_pos e])
  refine And.intro (fun e => ?_) (fun e => ?_)
  · have e := (lg_cmp_ge _ _).mp e
    conv => whnf
    exact mid (X - R) (by rw [← ab_m, if_neg (Int64.not_lt.mpr e)])
  · have e : X - R < 0 := Int64.not_le.mp (fun q => e ((lg_cmp_ge _ _).mpr q))
    conv => whnf
    exact mid (-(X - R)) (by rw [← ab_m, if_pos e])
set_option maxRecDepth 8000 in
theorem c_MD_outBy4 (Ω : Om) (M : Mem) (t n nr nl nh nw nb : Nat) (Ls : Nat → List Lt) (K : Ka) (ht : t < 4) (hn : n ≤ nr) (hr : nr ≤ 60) (hX : TxC M t nl nh nw nb Ls) (d3 : ∀ r, r < nr → RnR M r)
    (hK : ∀ M', Un wQm M M' → Un wX M M' → K (some (vI (hI (ouM M t nw n)))) M') : CallS Ω true m_MD_outBy [vR (some (12, 0)), vI (nI t), vI (nI n)] M K := by
  have lp : ∀ (m r : Nat) (M1 : Mem), r + m = n → Un wQm M M1 → Un wX M M1 → ouS (fun r => mI M 134 0 r) (fiM M t nw) n m r = ouM M t nw n → GoS Ω true m_MD_outBy K 2 [some (vR (some (12, 0))), some (vI (nI t)), some (vI (nI n)), some (vI (nI r))] [] M1 0 0 := by
    intro m
    induction m with
    | zero =>
      intro r M1 hk hU hX1 he
      refine go_wp ok_MD_outBy [] 250 _ _ _ _ _ _ ?_
      refine And.intro (fun _ => ?_) (fun a => ?_)
      · have := hK M1 hU hX1
        rw [← he] at this
        exact this
      · rw [nI_leI (by omega) (by omega)] at a; omega
    | succ m ih =>
      intro r M1 hk hU hX1 he
      rw [ouS] at he
      have go : ∀ M2 : Mem, Un wQm M M2 → Un wX M M2 → ¬ (mI M 134 0 r = -1 ∧ voS (fun r => mI M 134 0 r) r (n - (r + 1)) (r + 1) = false ∧ fiM M t nw r = false) → GoS Ω true m_MD_outBy K 37 [some (vR (some (12, 0))), some (vI (nI t)), some (vI (nI n)), some (vI (nI r))] [] M2 0 0 := by
        intro M2 hU2 hX2 hz
        rw [if_neg hz] at he
        refine go_wp ok_MD_outBy [2] 250 _ _ _ _ _ _ ?_
        conv => whnf
        have := ih (r + 1) M2 (by omega) hU2 hX2 he
        rw [← nI_1] at this
        exact this
      refine go_wp ok_MD_outBy [37] 250 _ _ _ _ _ _ ?_
      refine And.intro (fun a => ?_) (fun _ => ?_)
      · rw [nI_leI (by omega) (by omega)] at a; omega
      conv => whnf
      refine And.intro (vp_in_nI (by omega) (by decide)) ?_
      rw [nI_clamp (by omega), hX1.I (k := 134) rfl]
      refine And.intro (fun z => go M1 hU hX1 (fun q => z q.1)) (fun z => ?_)
      conv => whnf
      refine cl_use (fun K h => c_MD_isVoid Ω M1 r n (fun r => mI M 134 0 r) K (by omega) (by omega) (fun j hj => hX1.I (k := 134) rfl) h) trivial ?_
      refine br_bn (fun c => go M1 hU hX1 (fun q => by rw [q.2.1] at c; cases c)) (fun c => ?_)
      have hu := (d3 r (by omega)).ru z
      have hu1 := ruI_un hu hX1
      conv => whnf
      refine ⟨fun q M' => q = some (vI (bI (fiM M1 t nw r))) ∧ Un wQm M1 M' ∧ Un wX M1 M', c_MD_isFit4 Ω M1 t r _ nl nh nw nb Ls _ _ _ _ _ ht (by omega) (hX.un hX1 wX_tx) hu1.2.1 hu1.2.2 (fun M' a b => ⟨rfl, a, b⟩), trivial, ?_⟩
      rintro q M2 ⟨rfl, hU2, hX2⟩
      rw [fiM_un hX1]
      conv => whnf
      refine br_bn (fun c2 => go M2 (hU.trans hU2) (hX1.trans hX2) (fun q => by rw [q.2.2] at c2; cases c2)) (fun c2 => ?_)
      conv => whnf
      rw [if_pos ⟨z, c, c2⟩] at he
      have := hK M2 (hU.trans hU2) (hX1.trans hX2)
      rw [← he] at this
      exact this
  refine call_go (hJL rfl) (Nat.le_of_ble_eq_true rfl) (go_wp ok_MD_outBy [2] 250 _ _ _ _ _ _ ?_)
  conv => whnf
  exact lp n 0 M (by omega) Un.rfl Un.rfl rfl
theorem ou_lt {f : Nat → Int32} {fit : Nat → Bool} {n : Nat} : ∀ (m r : Nat), r + m = n → ∀ q, ouS f fit n m r = some q → q < n := by
  intro m
  induction m with
  | zero => intro r _ q e; cases e
  | succ m ih =>
    intro r hr' q e
    rw [ouS] at e
    split at e
    · cases e; omega
    · exact ih (r + 1) (by omega) q e
/-- is a text still in -/
def inQ (M : Mem) (n k : Nat) : Bool := (ouM M k (NW M k) n).isNone
theorem NW_of {M : Mem} {k nl nh nw nb : Nat} {Ls : Nat → List Lt} (hX : TxC M k nl nh nw nb Ls) : NW M k = nw := by
  unfold NW; rw [hX.1.2.2.1, nI_clamp (by have := hX.1.2.2.2.2.1.2.2.1; omega)]
theorem RnR.x {M M1 : Mem} {r : Nat} (h : RnR M r) (p2 : Un wX M M1) : RnR M1 r := by
  unfold RnR at h ⊢
  rw [p2.I (k := 30) rfl, p2.I (k := 31) rfl, p2.I (k := 32) rfl, p2.I (k := 33) rfl, p2.I (k := 34) rfl, p2.I (k := 35) rfl, p2.I (k := 134) rfl, p2.I (k := 135) rfl, p2.I (k := 136) rfl, p2.I (k := 137) rfl, p2.I (k := 138) rfl, p2.I (k := 139) rfl]
  exact h
set_option maxRecDepth 8000 in
theorem mn_grid (Ω : Om) (M : Mem) (nt w : Nat) (inb : Nat → Bool) (T : Nat → Tx) (nwf : Nat → Nat) (y : Int32) (K : Ka) (hn4 : nt ≤ 4) (hw4 : w < 4) (hX : TxF M nt T nwf) (h18 : mI M 12 0 18 = nI nt) (hO : ∀ k, k < nt → mI M 140 0 k = bI (inb k))
    (hK : ∀ M', Un wX M M' → K (some (vI (gS (spF nt inb T nwf w) 36).1)) M') (r3 r4 r5 r6 r7 r8 r9 r10 r11 r12 r13 r14 r15 : Option Vl) :
    GoS Ω true m_MD_next K 62 [some (vR (some (12, 0))), some (vI (nI w)), some (vI y), r3, r4, r5, r6, r7, r8, r9, r10, r11, r12, r13, r14, r15] [] M 0 0 := by
  generalize hsp : spF nt inb T nwf w = sp at hK
  refine go_wp ok_MD_next [74] 250 _ _ _ _ _ _ ?_
  conv => whnf
  refine loopN 4 (fun i M1 => Un wX M M1 ∧ ∀ s, mI M1 140 0 s = mI M 140 0 s) (fun i M1 => ∀ r7 r8 r9 r10 r11 r12 r13 r14 r15 : Option Vl, GoS Ω true m_MD_next K 74 [some (vR (some (12, 0))), some (vI (nI w)), some (vI y), some (vI (gS sp (9 * i)).1), some (vJ (gS sp (9 * i)).2), none, some (vI (nI (10 * i + 10))), r7, r8, r9, r10, r11, r12, r13, r14, r15] [] M1 0 0) ?_ ?_ 0 M (Nat.zero_le _) ⟨Un.rfl, fun _ => rfl⟩ r7 r8 r9 r10 r11 r12 r13 r14 r15
  · rintro i M1 hi ⟨hU, h140⟩ hN r7 r8 r9 r10 r11 r12 r13 r14 r15
    refine go_wp ok_MD_next [85] 250 _ _ _ _ _ _ ?_
    refine And.intro (fun q => absurd q (nI_nlt (a := 40) (by omega) (by decide))) (fun _ => ?_)
    conv => whnf
    refine loopN 9 (fun j M2 => Un wX M M2 ∧ ∀ s, mI M2 140 0 s = mI M 140 0 s) (fun j M2 => ∀ r8 r9 r10 r11 r12 r13 r14 r15 : Option Vl, GoS Ω true m_MD_next K 85 [some (vR (some (12, 0))), some (vI (nI w)), some (vI y), some (vI (gS sp (9 * i + j)).1), some (vJ (gS sp (9 * i + j)).2), none, some (vI (nI (10 * i + 10))), some (vI (nI (5 * j) - 20)), r8, r9, r10, r11, r12, r13, r14, r15] [] M2 0 0) ?_ ?_ 0 M1 (Nat.zero_le _) ⟨hU, h140⟩ r8 r9 r10 r11 r12 r13 r14 r15
    · rintro j M2 hj ⟨hU2, h2⟩ hN2 r8 r9 r10 r11 r12 r13 r14 r15
      refine go_wp ok_MD_next [104] 250 _ _ _ _ _ _ ?_
      refine And.intro (fun q => absurd q (g5_le hj)) (fun _ => ?_)
      conv => whnf
      have hv : 1 ≤ (nI (10 * i + 10)).toInt ∧ (nI (10 * i + 10)).toInt ≤ 40 := by rw [nI_toInt (by omega)]; omega
      refine mn_sp Ω M2 nt w inb T nwf (nI (10 * i + 10)) (nI (5 * j) - 20) y (gS sp (9 * i + j)).1 (gS sp (9 * i + j)).2 K hn4 hw4 (hX.un hU2) ((hU2.I rfl).trans h18) (fun k hk => (h2 k).trans (hO k hk)) hv (fun M3 y9 y11 r14 r15 hU3 h3 hy => ?_) r14 r15
      rw [show 9 * i + (j + 1) = 9 * i + j + 1 by omega, gS] at hN2
      have fin : ∀ (z : Int32 × Int64), z = (if (gS sp (9 * i + j)).2 < sp (gv (9 * i + j)) (gs (9 * i + j)) then (100 * gv (9 * i + j) + gs (9 * i + j), sp (gv (9 * i + j)) (gs (9 * i + j))) else gS sp (9 * i + j)) → ∀ r8 r9 r10 r11 r12 r13 r14 r15 : Option Vl, GoS Ω true m_MD_next K 226 [some (vR (some (12, 0))), some (vI (nI w)), some (vI y), some (vI z.1), some (vJ z.2), none, some (vI (nI (10 * i + 10))), some (vI (nI (5 * j) - 20)), r8, r9, r10, r11, r12, r13, r14, r15] [] M3 0 0 := by
        intro z hz r8 r9 r10 r11 r12 r13 r14 r15
        refine go_wp ok_MD_next [85] 250 _ _ _ _ _ _ ?_
        conv => whnf
        have := hN2 M3 ⟨hU2.trans hU3, fun s => (h3 s).trans (h2 s)⟩ r8 r9 r10 r11 r12 r13 r14 r15
        rw [← hz, ← g5_s] at this
        exact this
      have esp : sp (gv (9 * i + j)) (gs (9 * i + j)) = spZ (spX (fO nt inb T nwf w (nI (10 * i + 10)) (nI (5 * j) - 20)) nt) := by rw [gv_c hj, gs_c hj, ← hsp]; rfl
      have hle := spX_le (fO nt inb T nwf w (nI (10 * i + 10)) (nI (5 * j) - 20)) nt
      have hge := gS_ge sp (9 * i + j)
      generalize spX (fO nt inb T nwf w (nI (10 * i + 10)) (nI (5 * j) - 20)) nt = p at hy esp hle ⊢
      refine go_wp ok_MD_next [226] 250 _ _ _ _ _ _ ?_
      refine And.intro (fun q => ?_) (fun q => ?_)
      · rw [show (2 : Int32) = nI 2 from rfl, nI_ltI (by omega) (by omega)] at q
        have e1 : sp (gv (9 * i + j)) (gs (9 * i + j)) = -1 := by rw [esp, spZ, if_pos q]
        exact fin _ (if_neg (by rw [e1]; exact Int64.not_lt.mpr hge)).symm _ _ _ _ _ _ _ _
      · rw [show (2 : Int32) = nI 2 from rfl, nI_ltI (by omega) (by omega)] at q
        obtain ⟨rfl, rfl⟩ := hy (by omega)
        have e1 : sp (gv (9 * i + j)) (gs (9 * i + j)) = p.2.2 - p.2.1 := by rw [esp, spZ, if_neg (by omega)]
        conv => whnf
        rw [← e1]
        refine And.intro (fun e => ?_) (fun e => ?_)
        · have e := (lg_cmp_gt _ _).mp e
          conv => whnf
          have := fin _ (if_pos e).symm (some (vI (nI p.1))) (some (vJ p.2.1)) none (some (vJ p.2.2)) none (some (vI (nI nt))) r14 r15
          rw [e1, gv_c hj, gs_c hj] at this
          exact this
        · have e : ¬ _ < _ := fun q => e ((lg_cmp_gt _ _).mpr q)
          conv => whnf
          exact fin _ (if_neg e).symm _ _ _ _ _ _ _ _
    · rintro M2 ⟨hU2, h2⟩ r8 r9 r10 r11 r12 r13 r14 r15
      refine go_wp ok_MD_next [74] 250 _ _ _ _ _ _ ?_
      refine And.intro (fun _ => ?_) (fun q => absurd (show (20 : Int32) < nI (5 * 9) - 20 by decide) q)
      conv => whnf
      have := hN M2 ⟨hU2, h2⟩ (some (vI (nI (5 * 9) - 20))) r8 r9 r10 r11 r12 r13 r14 r15
      rw [show 9 * (i + 1) = 9 * i + 9 by omega, show 10 * (i + 1) + 10 = (10 * i + 10) + 10 by omega, ← nI_add] at this
      exact this
  · rintro M1 ⟨hU, h140⟩ r7 r8 r9 r10 r11 r12 r13 r14 r15
    refine go_wp ok_MD_next [] 250 _ _ _ _ _ _ ?_
    exact And.intro (fun _ => hK M1 hU) (fun q => absurd (show (40 : Int32) < nI (10 * 4 + 10) by decide) q)
theorem inQ_x {M M1 : Mem} {n k : Nat} (p2 : Un wX M M1) : inQ M1 n k = inQ M n k := by
  unfold inQ NW
  rw [ouM_un p2, pg_av p2 wX_tx]
def wNx (k i s : Nat) : Bool := wSo k i s || Nat.beq k 66
theorem wNx_so : ∀ k i s, wNx k i s = false → wSo k i s = false := fun k i s h => (Bool.or_eq_false_iff.mp h).1
theorem sc_Nx : ∀ k i s, wX k i s = false → wNx k i s = false := fun k i s h => by
  unfold wNx
  rw [sc_So k i s h]
  cases e : Nat.beq k 66 with
  | false => rfl
  | true => obtain rfl := Nat.eq_of_beq_eq_true e; cases h
theorem mC_Nx : ∀ k i s, wNx k i s = true → wC k i s = true := fun k i s h => by
  rcases Bool.or_eq_true_iff.mp h with h | h
  · exact mC_So k i s h
  · obtain rfl := Nat.eq_of_beq_eq_true h; rfl
def neS (M : Mem) (nt w n : Nat) : Int32 := (gS (spF nt (inQ M n) (fun k => pg M k) (NW M) w) 36).1
theorem c_WH_next (Ω : Om) (M : Mem) (nt nr w n : Nat) (o : Option Nat) (K : Ka) (a1 : HdC M nt o) (a6 : Txt M nt) (hw4 : w < 4) (hn : n ≤ nr) (hr : nr ≤ 60) (d1 : mI M 5 0 8 = nI nr) (d3 : ∀ r, r < nr → RnR M r) (hS : Sta M)
    (hK : ∀ M', Un wNx M M' → K (some (vI (neS M nt w n))) M') : CallS Ω true m_WH_next [vR (some (11, 0)), vI (nI w), vI (nI n)] M K := by
  have hn4 := a1.1
  refine call_go (hJL rfl) (Nat.le_of_ble_eq_true rfl) (go_wp ok_WH_next [30] 250 _ _ _ _ _ _ ?_)
  refine And.intro (fun q => absurd q (nI_pos (by omega))) (fun _ => And.intro (fun q => absurd q (nI_ge (b := 4) hw4 (by decide))) (fun _ => And.intro (fun q => absurd q (nI_pos (by omega))) (fun _ => And.intro (fun _ => ?_) (fun q => ?_))))
  · conv => whnf
    refine loopN 4 (fun j M1 => Un wNx M M1 ∧ ∀ k, k < j → mI M1 66 0 k = bI (!(decide (k < nt) && inQ M n k))) (fun j M1 => GoS Ω true m_WH_next K 30 [some (vR (some (11, 0))), some (vI (nI w)), some (vI (nI n)), some (vI (nI j))] [] M1 0 0) ?_ ?_ 0 M (Nat.zero_le _) ⟨Un.rfl, fun k hk => absurd hk (Nat.not_lt_zero _)⟩
    · rintro j M1 hj ⟨hU, hA⟩ hN
      have hXX := hU.mono sc_Nx
      have fin : ∀ (b : Bool) (M2 : Mem), Un wNx M M2 → (∀ k, k < j → mI M2 66 0 k = bI (!(decide (k < nt) && inQ M n k))) → b = (!(decide (j < nt) && inQ M n j)) → GoS Ω true m_WH_next K 72 [some (vR (some (11, 0))), some (vI (nI w)), some (vI (nI n)), some (vI (nI j))] [vI (bI b), vI (nI j), vR (some (66, 0))] M2 0 0 := by
        intro b M2 hU2 hA2 hb
        refine go_wp ok_WH_next [30] 250 _ _ _ _ _ _ ?_
        refine And.intro (vp_in_nI (by omega) (by decide)) ?_
        refine And.intro (bI_01 _) ?_
        rw [nI_clamp (by omega)]
        conv => whnf
        have := hN (sI M2 66 0 j (bI b)) ⟨hU2.pI rfl, fun k hk => ?_⟩
        · rw [← nI_1] at this
          exact this
        · rw [mI_sI]
          by_cases e : k = j
          · rw [if_pos ⟨rfl, rfl, e⟩, e, hb]
          · rw [if_neg (fun q => e q.2.2)]; exact hA2 k (by omega)
      refine go_wp ok_WH_next [72] 250 _ _ _ _ _ _ ?_
      refine And.intro (fun q => absurd q (nI_ge (b := 4) hj (by decide))) (fun _ => ?_)
      conv => whnf
      rw [(hU.I (k := 11) (s := 4) rfl).trans a1.2.1]
      refine And.intro (fun q => ?_) (fun q => ?_)
      · rw [nI_leI (by omega) (by omega)] at q
        exact fin true M1 hU hA (by rw [decide_eq_false (by omega)]; rfl)
      · rw [nI_leI (by omega) (by omega)] at q
        obtain ⟨⟨nl, nh, nw, nb, Ls, hX⟩, -⟩ := a6 j (by omega)
        have hX1 := hX.un hXX wX_tx
        conv => whnf
        refine And.intro (vp_in_nI (by omega) (by decide)) ?_
        rw [nI_clamp (by omega), rr_text hj]
        refine ⟨fun q M' => q = some (vI (match ouM M j nw n with | some r => nI r | none => -2)) ∧ Un wSo M1 M', c_outBy Ω M1 j n nr nl nh nw nb Ls _ hn hr hX1 (hS.x hXX) (fun r hr' => (d3 r hr').x hXX) (fun M' a => ⟨by rw [ouM_un hXX]; cases ouM M j nw n <;> rfl, a⟩), trivial, ?_⟩
        rintro q M2 ⟨rfl, hU2⟩
        have hA2 : ∀ k, k < j → mI M2 66 0 k = bI (!(decide (k < nt) && inQ M n k)) := fun k hk => (hU2.I rfl).trans (hA k hk)
        have hU3 : Un wNx M M2 := hU.trans (hU2.mono wNx_so)
        have e : inQ M n j = (ouM M j nw n).isNone := by unfold inQ; rw [NW_of hX]
        cases hq : ouM M j nw n with
        | none =>
          rw [hq] at e
          refine And.intro (fun _ => ?_) (fun q => absurd rfl q)
          exact fin false M2 hU3 hA2 (by rw [decide_eq_true (by omega), e]; rfl)
        | some r =>
          rw [hq] at e
          have hr' := ou_lt n 0 (by omega) r hq
          refine And.intro (fun q => absurd (show nI r = -2 from q) ?_) (fun _ => ?_)
          · intro q
            have := congrArg Int32.toInt q
            rw [nI_toInt (by omega), show (-2 : Int32).toInt = -2 from rfl] at this
            omega
          · exact fin true M2 hU3 hA2 (by rw [e]; simp)
    · rintro M1 ⟨hU, hA⟩
      have hXX := hU.mono sc_Nx
      refine go_wp ok_WH_next [] 250 _ _ _ _ _ _ ?_
      refine And.intro (fun _ => ?_) (fun q => absurd (Int32.le_refl _) q)
      conv => whnf
      refine ⟨fun q M' => q = some (vI (neS M nt w n)) ∧ Un wSo M1 M', c_nextPlace Ω M1 nt w (inQ M n) (fun k => pg M k) (NW M) _ hn4 hw4 ((TxF.of a6).un hXX) (hS.x hXX) (fun k hk => hA k hk) (fun M' a => ⟨rfl, a⟩), trivial, ?_⟩
      rintro q M2 ⟨rfl, hU2⟩
      exact hK M2 (hU.trans (hU2.mono wNx_so))
  · rw [d1, nI_leI (by omega) (by omega)] at q; omega
set_option maxRecDepth 8000 in
theorem t_next (Ω : Om) (M : Mem) (x y : Int32) (h : Inv M) : Turn Ω tyI m_WH_next m_MD_next [vI x, vI y] M := by
  obtain ⟨nt, o, a1, a2, a3, a4, a5, a6, a7, a8, ⟨nr, hr, d1, d2, d3⟩, a10⟩ := id h
  have hn4 := a1.1
  by_cases hc : (∃ w, w < 4 ∧ x = nI w) ∧ inR 0 (nI nr) y = true
  · obtain ⟨⟨w, hw4, rfl⟩, hy⟩ := hc
    obtain ⟨n, hn, rfl⟩ := nat_le hr hy
    refine turn_scr h (some (vI (neS M nt w n))) ⟨_, rfl⟩ (fun K hK => ?_) (fun M1 p1 p2 K hK => ?_)
    · exact c_WH_next Ω M nt nr w n o K a1 a6 hw4 hn hr d1 d3 a10 (fun M' a => hK M' (a.mono (wC_of mC_Nx)) (a.mono sc_Nx))
    · refine call_go (hJL rfl) (Nat.le_of_ble_eq_true rfl) (go_wp ok_MD_next [27] 250 _ _ _ _ _ _ ?_)
      conv => whnf
      refine cl_use (fun K h => c_MD_in Ω _ (nI w) 0 3 K h) trivial ?_
      rw [show inR 0 3 (nI w) = true by
        rcases (show w = 0 ∨ w = 1 ∨ w = 2 ∨ w = 3 by omega) with rfl | rfl | rfl | rfl <;> rfl]
      refine And.intro (fun a => absurd a (by decide)) (fun _ => ?_)
      conv => whnf
      rw [(p2.I (k := 12) (i := 0) (s := 97) rfl).trans d2]
      refine cl_use (fun K h => c_MD_in Ω _ (nI n) 0 (nI nr) K h) trivial ?_
      rw [hy]
      refine And.intro (fun _ => ?_) (fun a => absurd a (by decide))
      conv => whnf
      have h18 : mI M1 12 0 18 = nI nt := (p2.I rfl).trans a2.2.1
      refine loopN nt (fun j M2 => Un wX M1 M2 ∧ ∀ k, k < j → mI M2 140 0 k = bI (inQ M n k)) (fun j M2 => GoS Ω true m_MD_next K 27 [some (vR (some (12, 0))), some (vI (nI w)), some (vI (nI n)), some (vI (nI j)), none, none, none, none, none, none, none, none, none, none, none, none] [] M2 0 0) ?_ ?_ 0 M1 (Nat.zero_le _) ⟨Un.rfl, fun k hk => absurd hk (Nat.not_lt_zero _)⟩
      · rintro j M2 hj ⟨hU, hA⟩ hN
        have hXX := p2.trans hU
        obtain ⟨⟨nl, nh, nw, nb, Ls, hX⟩, -⟩ := a6 j hj
        have fin : ∀ (b : Bool) (M3 : Mem), Un wX M2 M3 → (∀ k, k < j → mI M3 140 0 k = bI (inQ M n k)) → b = inQ M n j → GoS Ω true m_MD_next K 55 [some (vR (some (12, 0))), some (vI (nI w)), some (vI (nI n)), some (vI (nI j)), none, none, none, none, none, none, none, none, none, none, none, none] [vI (bI b), vI (nI j), vR (some (140, 0))] M3 0 0 := by
          intro b M3 hU3 hA3 hb
          refine go_wp ok_MD_next [27] 250 _ _ _ _ _ _ ?_
          refine And.intro (vp_in_nI (by omega) (by decide)) ?_
          refine And.intro (bI_01 _) ?_
          rw [nI_clamp (by omega)]
          conv => whnf
          have := hN (sI M3 140 0 j (bI b)) ⟨(hU.trans hU3).pI rfl, fun k hk => ?_⟩
          · rw [← nI_1] at this
            exact this
          · rw [mI_sI]
            by_cases e : k = j
            · rw [if_pos ⟨rfl, rfl, e⟩, e, hb]
            · rw [if_neg (fun q => e q.2.2)]; exact hA3 k (by omega)
        refine go_wp ok_MD_next [55] 250 _ _ _ _ _ _ ?_
        refine And.intro (fun q => ?_) (fun _ => ?_)
        · rw [(hU.I (k := 12) (s := 18) rfl).trans h18, nI_leI (by omega) (by omega)] at q; omega
        conv => whnf
        refine ⟨fun q M' => q = some (vI (hI (ouM M2 j nw n))) ∧ Un wQm M2 M' ∧ Un wX M2 M', c_MD_outBy4 Ω M2 j n nr nl nh nw nb Ls _ (by omega) hn hr (hX.un hXX wX_tx) (fun r hr' => (d3 r hr').x hXX) (fun M' a b => ⟨rfl, a, b⟩), trivial, ?_⟩
        rintro q M3 ⟨rfl, hU3, hX3⟩
        rw [ouM_un hXX]
        have hA3 : ∀ k, k < j → mI M3 140 0 k = bI (inQ M n k) := fun k hk => (hU3.I rfl).trans (hA k hk)
        have e : inQ M n j = (ouM M j nw n).isNone := by unfold inQ; rw [NW_of hX]
        cases hq : ouM M j nw n with
        | none =>
          rw [hq] at e
          refine And.intro (fun q => absurd rfl q) (fun _ => ?_)
          exact fin true M3 hX3 hA3 e.symm
        | some r =>
          rw [hq] at e
          have hr' := ou_lt n 0 (by omega) r hq
          refine And.intro (fun _ => ?_) (fun q => absurd q (nI_nm1 (show r < 2 ^ 31 by omega)))
          exact fin false M3 hX3 hA3 e.symm
      · rintro M2 ⟨hU, hA⟩
        have hXX := p2.trans hU
        have h18' : mI M2 12 0 18 = nI nt := (hU.I rfl).trans h18
        refine go_wp ok_MD_next [62] 250 _ _ _ _ _ _ ?_
        refine And.intro (fun _ => ?_) (fun q => ?_)
        · exact mn_grid Ω M2 nt w (inQ M n) (fun k => pg M k) (NW M) _ K hn4 hw4 ((TxF.of a6).un hXX) h18' (fun k hk => hA k hk) (fun M' a => hK M' (hU.trans a)) _ _ _ _ _ _ _ _ _ _ _ _ _
        · rw [h18'] at q; exact absurd (Int32.le_refl _) q
  · refine turn_pure h (some (vI (-10000))) ⟨_, rfl⟩ (fun K hK => ?_) (fun K hK => ?_)
    · refine call_go (hJL rfl) (Nat.le_of_ble_eq_true rfl) (go_wp ok_WH_next [] 250 _ _ _ _ _ _ ?_)
      refine And.intro (fun _ => hK) (fun z1 => And.intro (fun _ => hK) (fun z2 => And.intro (fun _ => hK) (fun z3 => And.intro (fun z4 => ?_) (fun _ => hK))))
      rw [d1] at z4
      refine absurd ⟨?_, inR_t.mpr ⟨Int32.not_lt.mp z3, z4⟩⟩ hc
      rcases nI_cases x (n := 4) (by decide) with q | q
      · exact q
      · exact absurd (nI_no (by decide) q) (fun q => q.elim z1 z2)
    · refine call_go (hJL rfl) (Nat.le_of_ble_eq_true rfl) (go_wp ok_MD_next [] 250 _ _ _ _ _ _ ?_)
      conv => whnf
      refine cl_use (fun K h => c_MD_in Ω _ x 0 3 K h) trivial ?_
      refine br_bz (fun _ => hK) (fun e1 => ?_)
      conv => whnf
      rw [d2]
      refine cl_use (fun K h => c_MD_in Ω _ y 0 (nI nr) K h) trivial ?_
      refine br_bn (fun e2 => absurd ⟨?_, e2⟩ hc) (fun _ => hK)
      obtain ⟨q1, q2⟩ := inR_t.mp e1
      rcases nI_cases x (n := 4) (by decide) with q | q
      · exact q
      · refine absurd (nI_no (by decide) q) (fun q => q.elim (Int32.not_lt.mpr q1) (fun q => ?_))
        exact absurd (Int32.le_trans q q2) (by decide)
