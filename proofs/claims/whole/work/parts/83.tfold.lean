/-! TURNS, XVI: fold -/
/-- the class sets out from rest in still air, and settles -/
theorem cr2 (Ω : Om) (M : Mem) (t w : Nat) (v s : Int32) (hW : WgOK (pg M t) w) (hC : ClW M t w (pg M t)) (hL : ClS M t w (pg M t)) (h44 : ∀ h, h < 4 → mI M 44 t h = pg M t 83 h) (hS : Sta M) (N : Mem → Prop)
    (hN : ∀ M', Un wSo M M' → CE M' t (evR (pg M t) w v s (pg M t 83)) → (∀ i, i < wN (pg M t) w → mI M' 38 0 i = pg M t 95 (10 * w + i)) → (¬ rnR (evR (pg M t) w v s (pg M t 83)) z0 = -2 → CF M' (wN (pg M t) w) (rnG (evR (pg M t) w v s (pg M t 83)) z0) (dnS (evR (pg M t) w v s (pg M t 83)) (rnG (evR (pg M t) w v s (pg M t 83)) z0)) (bnS (evR (pg M t) w v s (pg M t 83)) (rnG (evR (pg M t) w v s (pg M t 83)) z0)) (anS (evR (pg M t) w v s (pg M t 83)) (rnG (evR (pg M t) w v s (pg M t 83)) z0))) → N M') :
    ∃ K0 : Ka, CallS Ω true m_Solver_setOut [vR (some (6, 0)), vR (some (7, t)), vR (some (10, 4 * t + w)), vI v, vI s, vR (some (44, t)), vR (some (37, 0))] M K0 ∧ True ∧ ∀ r M1, K0 r M1 → r = none ∧
    ∃ K1 : Ka, CallS Ω true m_Solver_settle [vR (some (6, 0))] M1 K1 ∧ True ∧ ∀ r M2, K1 r M2 → r = some (vI (rnR (evR (pg M t) w v s (pg M t 83)) z0)) ∧ N M2 := by
  have hn3 := hW.n.2.2.1
  refine ⟨fun r M' => r = none ∧ Un wSo M M' ∧ CE M' t (evR (pg M t) w v s (pg M t 83)) ∧ (∀ i, i < 10 → mJ M' 23 0 i = 0) ∧ ∀ i, i < wN (pg M t) w → mI M' 38 0 i = pg M t 95 (10 * w + i), c_setOut Ω M t w 44 t 37 (pg M t) v s (pg M t 83) (fun _ => 0) _ hW hC hL hS.2.2.1 rfl rfl (fun _ => rfl) (fun _ => rfl) h44 hS.1 (fun M' a b c d e => ⟨rfl, a, b, c, d⟩), trivial, ?_⟩
  rintro r M1 ⟨rfl, hU1, hE1, h23, h38⟩
  refine ⟨rfl, fun r M' => r = some (vI (rnR (evR (pg M t) w v s (pg M t 83)) z0)) ∧ Un wRd M1 M' ∧ (¬ rnR (evR (pg M t) w v s (pg M t 83)) z0 = -2 → CF M' (wN (pg M t) w) (rnG (evR (pg M t) w v s (pg M t 83)) z0) (dnS (evR (pg M t) w v s (pg M t 83)) (rnG (evR (pg M t) w v s (pg M t 83)) z0)) (bnS (evR (pg M t) w v s (pg M t 83)) (rnG (evR (pg M t) w v s (pg M t 83)) z0)) (anS (evR (pg M t) w v s (pg M t 83)) (rnG (evR (pg M t) w v s (pg M t 83)) z0))), c_settle Ω M1 t (evR (pg M t) w v s (pg M t 83)) z0 _ hE1 (evR_ok hW) z0_bd (fun i hi => h23 i (by have : i < wN (pg M t) w := hi; omega)) (fun M' a b => ⟨rfl, a, b⟩), trivial, ?_⟩
  rintro r M2 ⟨rfl, hU2, hF⟩
  exact ⟨rfl, hN M2 (hU1.trans (hU2.mono wSo_rd)) (hE1.un hU2) (fun i hi => (hU2.I rfl).trans (h38 i hi)) hF⟩
theorem Sta.x {M M' : Mem} (h : Sta M) (hU : Un wX M M') : Sta M' := h.un hU (fun _ => rfl) (fun _ => rfl) (fun _ => rfl) (fun _ => rfl) (fun _ => rfl)
theorem RwY.ok' {M M' : Mem} {o : Option Nat} {x : Int32} {t w : Nat} (h : RwY M o x t w) (hU : Un wX M M') : WgOK (pg M t) w ∧ ClW M' t w (pg M t) ∧ ClS M' t w (pg M t) ∧ (∀ h, h < 4 → mI M' 44 t h = pg M t 83 h) := by
  have q := (h.un hU wX_tx).ok
  rw [pg_av hU wX_tx t] at q
  exact ⟨q.1, q.2.1, q.2.2.1, q.2.2.2.1⟩
/-- the first at which it is so -/
def fsP (P : Nat → Bool) : Nat → Nat → Option Nat
  | 0, _ => none
  | m + 1, k => if P k = true then some k else fsP P m (k + 1)
def faS (b : Nat → Int64) : Nat → Nat → Bool
  | 0, _ => false
  | m + 1, i => if b i < -90 ∨ 90 < b i then true else faS b m (i + 1)
/-- folded, or unsettled -/
def foP (T : Tx) (w : Nat) (s : Int32) (ha : Nat → Int32) (v : Nat) : Bool := decide (rnR (evR T w (nI v) s ha) z0 = -2) || faS (bnS (evR T w (nI v) s ha) (rnG (evR T w (nI v) s ha) z0)) (wN T w) 0
theorem c_isFolded (Ω : Om) (M : Mem) (n : Nat) (b : Nat → Int64) (K : Ka) (hn : n ≤ 10) (hs : mI M 2 0 4 = nI n) (hb : ∀ i, i < n → mJ M 25 0 i = b i) (h : K (some (vI (bI (faS b n 0)))) M) : CallS Ω true m_Trials_isFolded [vR (some (2, 0))] M K := by
  have lp : ∀ (m i : Nat), i + m = n → faS b m i = faS b n 0 → GoS Ω true m_Trials_isFolded K 2 [some (vR (some (2, 0))), some (vI (nI i))] [] M 0 0 := by
    intro m
    induction m with
    | zero =>
      intro i hi he
      refine go_wp ok_Trials_isFolded [] 250 _ _ _ _ _ _ ?_
      refine And.intro (fun _ => ?_) (fun a => ?_)
      · rw [← he] at h; exact ⟨Or.inl rfl, h⟩
      · rw [hs, nI_leI (by omega) (by omega)] at a; omega
    | succ m ih =>
      intro i hi he
      rw [faS] at he
      refine go_wp ok_Trials_isFolded [2] 250 _ _ _ _ _ _ ?_
      refine And.intro (fun a => ?_) (fun _ => ?_)
      · rw [hs, nI_leI (by omega) (by omega)] at a; omega
      conv => whnf
      refine And.intro (vp_in_nI (by omega) (by decide)) ?_
      rw [nI_clamp (by omega), hb i (by omega)]
      refine And.intro (fun a => ?_) (fun a => ?_)
      · have a := (lg_cmp_lt _ _).mp a
        rw [if_pos (Or.inl a)] at he
        rw [← he] at h
        exact ⟨Or.inr rfl, h⟩
      · have a : ¬ _ < _ := fun q => a ((lg_cmp_lt _ _).mpr q)
        conv => whnf
        refine And.intro (vp_in_nI (by omega) (by decide)) ?_
        rw [nI_clamp (by omega), hb i (by omega)]
        refine And.intro (fun c => ?_) (fun c => ?_)
        · have c := (lg_cmp_le _ _).mp c
          rw [if_neg (fun q => q.elim a (fun q => absurd c (Int64.not_le.mpr q)))] at he
          conv => whnf
          have := ih (i + 1) (by omega) he
          rw [← nI_1] at this
          exact this
        · have c : 90 < b i := Int64.not_le.mp (fun q => c ((lg_cmp_le _ _).mpr q))
          rw [if_pos (Or.inr c)] at he
          rw [← he] at h
          exact ⟨Or.inr rfl, h⟩
  refine call_go (hJL rfl) (Nat.le_of_ble_eq_true rfl) (go_wp ok_Trials_isFolded [2] 250 _ _ _ _ _ _ ?_)
  exact lp n 0 (by omega) rfl
def opI (o : Option Nat) : Int32 := match o with
  | some k => nI k
  | none => -2
theorem c_foldSpeed (Ω : Om) (M : Mem) (o : Option Nat) (x : Int32) (t w : Nat) (s : Int32) (K : Ka) (hY : RwY M o x t w) (hS : Sta M)
    (hK : ∀ M', Un wSo M M' → K (some (vI (opI (fsP (foP (pg M t) w s (pg M t 83)) 40 1)))) M') : CallS Ω true m_Trials_foldSpeed [vR (some (9, 0)), vR (some (7, t)), vR (some (10, 4 * t + w)), vI s] M K := by
  have hn3 := hY.ok.1.n.2.2.1
  have lp : ∀ (m v : Nat) (M1 : Mem), v + m = 41 → 1 ≤ v → Un wSo M M1 → fsP (foP (pg M t) w s (pg M t 83)) m v = fsP (foP (pg M t) w s (pg M t 83)) 40 1 → GoS Ω true m_Trials_foldSpeed K 3 [some (vR (some (9, 0))), some (vR (some (7, t))), some (vR (some (10, 4 * t + w))), some (vI s), some (vI (nI v))] [] M1 0 0 := by
    intro m
    induction m with
    | zero =>
      intro v M1 hv _ hU he
      refine go_wp ok_Trials_foldSpeed [] 250 _ _ _ _ _ _ ?_
      refine And.intro (fun _ => ?_) (fun a => absurd (show (40 : Int32) < nI v from nI_lt (a := 40) (by omega) (by omega)) a)
      have := hK M1 hU
      rw [← he] at this
      exact this
    | succ m ih =>
      intro v M1 hv h1 hU he
      have hX := hU.mono sc_So
      obtain ⟨hW, hC, hL, h44⟩ := hY.ok' hX
      have ep := pg_av hX wX_tx t
      rw [fsP] at he
      have go : ∀ M2 : Mem, Un wSo M M2 → foP (pg M t) w s (pg M t 83) v = false → GoS Ω true m_Trials_foldSpeed K 61 [some (vR (some (9, 0))), some (vR (some (7, t))), some (vR (some (10, 4 * t + w))), some (vI s), some (vI (nI v))] [] M2 0 0 := by
        intro M2 hU2 hf
        rw [hf, if_neg (by decide)] at he
        refine go_wp ok_Trials_foldSpeed [3] 250 _ _ _ _ _ _ ?_
        conv => whnf
        have := ih (v + 1) M2 (by omega) (by omega) hU2 he
        rw [← nI_1] at this
        exact this
      have fin : ∀ M2 : Mem, Un wSo M M2 → foP (pg M t) w s (pg M t 83) v = true → GoS Ω true m_Trials_foldSpeed K 58 [some (vR (some (9, 0))), some (vR (some (7, t))), some (vR (some (10, 4 * t + w))), some (vI s), some (vI (nI v))] [] M2 0 0 := by
        intro M2 hU2 hf
        rw [hf, if_pos rfl] at he
        refine go_wp ok_Trials_foldSpeed [] 250 _ _ _ _ _ _ ?_
        have := hK M2 hU2
        rw [← he] at this
        exact this
      refine go_wp ok_Trials_foldSpeed [58, 61] 250 _ _ _ _ _ _ ?_
      refine And.intro (fun a => absurd a (nI_nlt (a := 40) (by omega) (by decide))) (fun _ => ?_)
      conv => whnf
      have hq := cr2 Ω M1 t w (nI v) s (by rw [ep]; exact hW) (by rw [ep]; exact hC) (by rw [ep]; exact hL) (by rw [ep]; exact h44) (hS.x hX) (fun M' => Un wSo M1 M' ∧ mI M' 2 0 4 = nI (wN (pg M t) w) ∧ (¬ rnR (evR (pg M t) w (nI v) s (pg M t 83)) z0 = -2 → ∀ i, i < wN (pg M t) w → mJ M' 25 0 i = bnS (evR (pg M t) w (nI v) s (pg M t 83)) (rnG (evR (pg M t) w (nI v) s (pg M t 83)) z0) i)) (fun M' q1 q2 q3 q4 => ⟨q1, by have := q2.2.2.2.1; rw [ep] at this; exact this, fun z i hi => by rw [ep] at q4; exact (q4 z i hi).2.2.1⟩)
      rw [ep] at hq
      obtain ⟨K0, c0, -, c1⟩ := hq
      refine ⟨K0, c0, trivial, ?_⟩
      intro r M2 hr
      obtain ⟨rfl, K1, c2, -, c3⟩ := c1 r M2 hr
      conv => whnf
      refine ⟨K1, c2, trivial, ?_⟩
      intro r M3 hr
      obtain ⟨rfl, q1, q2, q3⟩ := c3 r M3 hr
      refine And.intro (fun z => ?_) (fun z => ?_)
      · exact fin M3 (hU.trans q1) (by unfold foP; rw [decide_eq_true z]; rfl)
      · conv => whnf
        refine cl_use (fun K h => c_isFolded Ω M3 _ _ K hn3 q2 (q3 z) h) trivial ?_
        refine br_bz (fun c => ?_) (fun c => ?_)
        · exact go M3 (hU.trans q1) (by unfold foP; rw [decide_eq_false z, c]; rfl)
        · exact fin M3 (hU.trans q1) (by unfold foP; rw [c, Bool.or_true])
  refine call_go (hJL rfl) (Nat.le_of_ble_eq_true rfl) (go_wp ok_Trials_foldSpeed [3] 250 _ _ _ _ _ _ ?_)
  exact lp 40 1 M rfl (by omega) Un.rfl rfl
set_option maxRecDepth 8000 in
theorem t_fold (Ω : Om) (M : Mem) (x s : Int32) (h : Inv M) : Turn Ω tyI m_WH_fold m_MD_fold [vI x, vI s] M := by
  obtain ⟨nt, o, a1, a2, a3, a4, a5, a6, a7, a8, a9, a10⟩ := id h
  have hnt := a1.1
  by_cases hc : (∃ t w, RwY M o x t w) ∧ inR (-30) 30 s = true
  · obtain ⟨⟨t, w, hY⟩, q2⟩ := hc
    have hw4 := hY.w4
    have ht : t < nt := a1.2.2.2 t hY.1
    have hnR : ¬ RwN M o x := fun q => no_both (M1 := M) q w hY
    have hW := hY.ok.1
    have hn3 := hW.n.2.2.1
    refine turn_scr h (some (vI (opI (fsP (foP (pg M t) w s (pg M t 83)) 40 1)))) ⟨_, rfl⟩ (fun K hK => ?_) (fun M1 p1 p2 K hK => ?_)
    · refine pr_fold a1 x s (fun t' w' hY' => ?_) (fun q => absurd q hnR) (Or.inr ⟨t, w, hY⟩)
      obtain ⟨rfl, rfl⟩ := rw_uq hY hY'
      refine go_wp ok_WH_fold [] 250 _ _ _ _ _ _ ?_
      conv => whnf
      refine cl_use (fun K h => c_WH_isSlant Ω _ s K h) trivial ?_
      rw [q2]
      refine And.intro (fun _ => ?_) (fun a => absurd a (by decide))
      conv => whnf
      refine ⟨fun r M' => r = some (vI (opI (fsP (foP (pg M t') w' s (pg M t' 83)) 40 1))) ∧ Un wSo M M', c_foldSpeed Ω M o x t' w' s _ hY a10 (fun M' a => ⟨rfl, a⟩), trivial, ?_⟩
      rintro r M1 ⟨rfl, hU⟩
      exact hK M1 (hU.mono (wC_of mC_So)) (hU.mono sc_So)
    · have hY1 := hY.un p2 wX_tx
      refine call_go (hJL rfl) (Nat.le_of_ble_eq_true rfl) (go_wp ok_MD_fold [23] 250 _ _ _ _ _ _ ?_)
      conv => whnf
      refine cl_use (fun K h => c_MD_rowY Ω M1 nt t w o x K (a2.un p1 rfl rfl) hY1 h) trivial ?_
      refine And.intro (fun a => absurd a (nI_nm1 (by omega))) (fun _ => ?_)
      conv => whnf
      refine cl_use (fun K h => c_MD_isSlant Ω _ s K h) trivial ?_
      rw [q2]
      refine And.intro (fun _ => ?_) (fun a => absurd a (by decide))
      have lp : ∀ (m v : Nat) (M2 : Mem) (r5 : Option Vl), v + m = 41 → 1 ≤ v → Un wX M1 M2 → fsP (foP (pg M t) w s (pg M t 83)) m v = fsP (foP (pg M t) w s (pg M t 83)) 40 1 → GoS Ω true m_MD_fold K 23 [some (vR (some (12, 0))), some (vI x), some (vI s), some (vI (nI (4 * t + w))), some (vI (nI v)), r5] [] M2 0 0 := by
        intro m
        induction m with
        | zero =>
          intro v M2 r5 hv _ hU he
          refine go_wp ok_MD_fold [] 250 _ _ _ _ _ _ ?_
          refine And.intro (fun _ => ?_) (fun a => absurd (show (40 : Int32) < nI v from nI_lt (a := 40) (by omega) (by omega)) a)
          have := hK M2 hU
          rw [← he] at this
          exact this
        | succ m ih =>
          intro v M2 r5 hv h1 hU he
          have ep := pg_av (p2.trans hU) wX_tx t
          rw [fsP] at he
          refine go_wp ok_MD_fold [59] 250 _ _ _ _ _ _ ?_
          refine And.intro (fun a => absurd a (nI_nlt (a := 40) (by omega) (by decide))) (fun _ => ?_)
          conv => whnf
          have hq := mr3 Ω M2 t w (nI v) s 1 (pg M t 83) (by omega) hw4 (by rw [ep]; exact hW) (Or.inr rfl) (by rw [ep]; exact funext fun k => hxS1 _ k) (fun M' => Un wX M2 M' ∧ mI M' 12 0 72 = nI (wN (pg M t) w) ∧ (¬ rnR (evR (pg M t) w (nI v) s (pg M t 83)) z0 = -2 → ∀ i, i < wN (pg M t) w → mJ M' 116 0 i = bnS (evR (pg M t) w (nI v) s (pg M t 83)) (rnG (evR (pg M t) w (nI v) s (pg M t 83)) z0) i)) (fun M' q1 q2 q3 q4 q5 q6 => ⟨q2, by rw [ep] at q5; exact q5, fun z i hi => by rw [ep] at q3; exact (q3 z i hi).2.2.1⟩)
          rw [ep] at hq
          obtain ⟨K0, c0, -, c1⟩ := hq
          refine ⟨K0, c0, trivial, ?_⟩
          intro r M3 hr
          obtain ⟨rfl, K1, c2, -, c3⟩ := c1 r M3 hr
          conv => whnf
          refine ⟨K1, c2, trivial, ?_⟩
          intro r M4 hr
          obtain ⟨rfl, K2, c4, -, c5⟩ := c3 r M4 hr
          conv => whnf
          refine ⟨K2, c4, trivial, ?_⟩
          intro r M5 hr
          obtain ⟨rfl, g1, g2, g3⟩ := c5 r M5 hr
          have hU5 := hU.trans g1
          refine And.intro (fun z => ?_) (fun z => ?_)
          · have lp2 : ∀ (m2 i : Nat), i + m2 = wN (pg M t) w → faS (bnS (evR (pg M t) w (nI v) s (pg M t 83)) (rnG (evR (pg M t) w (nI v) s (pg M t 83)) z0)) m2 i = faS (bnS (evR (pg M t) w (nI v) s (pg M t 83)) (rnG (evR (pg M t) w (nI v) s (pg M t 83)) z0)) (wN (pg M t) w) 0 → GoS Ω true m_MD_fold K 59 [some (vR (some (12, 0))), some (vI x), some (vI s), some (vI (nI (4 * t + w))), some (vI (nI v)), some (vI (nI i))] [] M5 0 0 := by
              intro m2
              induction m2 with
              | zero =>
                intro i hi he2
                refine go_wp ok_MD_fold [23] 250 _ _ _ _ _ _ ?_
                refine And.intro (fun _ => ?_) (fun a => ?_)
                · have hf : foP (pg M t) w s (pg M t 83) v = false := by
                    unfold foP; rw [decide_eq_false z, ← he2]; rfl
                  rw [hf, if_neg (by decide)] at he
                  conv => whnf
                  have := ih (v + 1) M5 (some (vI (nI i))) (by omega) (by omega) hU5 he
                  rw [← nI_1] at this
                  exact this
                · rw [g2, nI_leI (by omega) (by omega)] at a; omega
              | succ m2 ih2 =>
                intro i hi he2
                rw [faS] at he2
                have fin : faS (bnS (evR (pg M t) w (nI v) s (pg M t 83)) (rnG (evR (pg M t) w (nI v) s (pg M t 83)) z0)) (wN (pg M t) w) 0 = true → K (some (vI (nI v))) M5 := by
                  intro hf
                  have hf2 : foP (pg M t) w s (pg M t 83) v = true := by unfold foP; rw [hf, Bool.or_true]
                  rw [hf2, if_pos rfl] at he
                  have := hK M5 hU5
                  rw [← he] at this
                  exact this
                refine go_wp ok_MD_fold [59] 250 _ _ _ _ _ _ ?_
                refine And.intro (fun a => ?_) (fun _ => ?_)
                · rw [g2, nI_leI (by omega) (by omega)] at a; omega
                conv => whnf
                refine And.intro (vp_in_nI (by omega) (by decide)) ?_
                rw [nI_clamp (by omega), g3 z i (by omega)]
                refine And.intro (fun a => ?_) (fun a => ?_)
                · have a := (lg_cmp_lt _ _).mp a
                  rw [if_pos (Or.inl a)] at he2
                  exact fin he2.symm
                · have a : ¬ _ < _ := fun q => a ((lg_cmp_lt _ _).mpr q)
                  conv => whnf
                  refine And.intro (vp_in_nI (by omega) (by decide)) ?_
                  rw [nI_clamp (by omega), g3 z i (by omega)]
                  refine And.intro (fun c => ?_) (fun c => ?_)
                  · have c := (lg_cmp_le _ _).mp c
                    rw [if_neg (fun q => q.elim a (fun q => absurd c (Int64.not_le.mpr q)))] at he2
                    conv => whnf
                    have := ih2 (i + 1) (by omega) he2
                    rw [← nI_1] at this
                    exact this
                  · have c : (90 : Int64) < _ := Int64.not_le.mp (fun q => c ((lg_cmp_le _ _).mpr q))
                    rw [if_pos (Or.inr c)] at he2
                    exact fin he2.symm
            conv => whnf
            exact lp2 _ 0 (by omega) rfl
          · have hf2 : foP (pg M t) w s (pg M t 83) v = true := by unfold foP; rw [decide_eq_true z]; rfl
            rw [hf2, if_pos rfl] at he
            have := hK M5 hU5
            rw [← he] at this
            exact this
      conv => whnf
      exact lp 40 1 M1 none rfl (by omega) Un.rfl rfl
  · refine turn_pure h (some (vI (-1))) ⟨_, rfl⟩ (fun K hK => ?_) (fun K hK => ?_)
    · refine pr_fold a1 x s (fun t w hY => ?_) (fun _ => hK) (rw_res a1 a6 x)
      refine go_wp ok_WH_fold [] 250 _ _ _ _ _ _ ?_
      conv => whnf
      refine cl_use (fun K h => c_WH_isSlant Ω _ s K h) trivial ?_
      exact br_bn (fun q => absurd ⟨⟨t, w, hY⟩, q⟩ hc) (fun _ => hK)
    · refine call_go (hJL rfl) (Nat.le_of_ble_eq_true rfl) (go_wp ok_MD_fold [] 250 _ _ _ _ _ _ ?_)
      conv => whnf
      rcases rw_res a1 a6 x with hN | ⟨t, w, hY⟩
      · refine cl_use (fun K h => c_MD_rowN' Ω M nt o x K a2 hN h) trivial ?_
        exact And.intro (fun _ => hK) (fun a => absurd rfl a)
      · refine cl_use (fun K h => c_MD_rowY Ω M nt t w o x K a2 hY h) trivial ?_
        refine And.intro (fun _ => hK) (fun _ => ?_)
        conv => whnf
        refine cl_use (fun K h => c_MD_isSlant Ω _ s K h) trivial ?_
        exact br_bn (fun q => absurd ⟨⟨t, w, hY⟩, q⟩ hc) (fun _ => hK)
