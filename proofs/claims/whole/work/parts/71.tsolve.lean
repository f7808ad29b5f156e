/-! TURNS, VII: solve, ground -/
/-- a wing asked in the open, with gusts -/
def evG (M : Mem) (t w : Nat) (v s h : Int32) : Ev := (pg M t, w, v, h, bsS (pg M t) w s (hxS 1 (pg M t 83)) (hxS 1 (fun i => mI M 112 0 i)), fun _ => 0)
theorem hxS1 (h : Nat → Int32) (k : Nat) : hxS 1 h k = h k := if_neg (by decide)
theorem evG_ok {M : Mem} {t w : Nat} {v s : Int32} {hh : Nat} (hW : WgOK (pg M t) w) (h21 : hh < 21) : EvOK (evG M t w v s (nI hh)) := ⟨hW, hh, h21, rfl⟩
theorem c_setG (Ω : Om) (M : Mem) (t w : Nat) (v s : Int32) (K : Ka) (hG : Gst M) (hS : Sta M) (hW : WgOK (pg M t) w) (hC : ClW M t w (pg M t)) (hL : ClS M t w (pg M t)) (h44 : ∀ h, h < 4 → mI M 44 t h = pg M t 83 h)
    (hK : ∀ M', Un wSo M M' → CE M' t (evG M t w v s (nI 0)) → (∀ i, i < 10 → mJ M' 23 0 i = 0) → (∀ i, i < 10 → mJ M' 40 0 i = 0) → K none M') :
    CallS Ω true m_Solver_setOut [vR (some (6, 0)), vR (some (7, t)), vR (some (10, 4 * t + w)), vI v, vI s, vR (some (44, t)), vR (some (65, 0))] M K :=
  c_setOut Ω M t w 44 t 65 (pg M t) v s (hxS 1 (pg M t 83)) (hxS 1 (fun i => mI M 112 0 i)) K hW hC hL hS.2.2.1 rfl rfl (fun _ => rfl) (fun _ => rfl) (fun h h4 => (h44 h h4).trans (hxS1 _ _).symm) (fun i hi => (hG i hi).1.trans (hxS1 _ _).symm) (fun M' a b c d e => hK M' a b c e)
theorem inR_v {v : Int32} (h : inR 1 40 v = true) : 1 ≤ v.toInt ∧ v.toInt ≤ 40 := by
  obtain ⟨a, b⟩ := inR_t.mp h
  rw [Int32.le_iff_toInt_le] at a b
  exact ⟨a, b⟩
theorem wV_141 {M M' : Mem} {f : Nat} (h : Un (wV f) M M') (s : Nat) : mI M' 141 0 s = mI M 141 0 s := h.I rfl
theorem wX_141 {M M' : Mem} (h : Un wX M M') (s : Nat) : mI M' 141 0 s = mI M 141 0 s := h.I rfl
/-- where a kept wing begins when it goes on -/
def onG (M : Mem) (t w : Nat) (on : Int32) : Nat → Int64 := fun i => if on = 0 then 0 else if mI M 119 0 (4 * t + w) = 0 then 0 else mJ M 121 0 (10 * (4 * t + w) + i)
theorem onG_bd {M : Mem} {t w : Nat} {on : Int32} (hS : SlC M t w) : GB (wN (pg M t) w) (onG M t w on) := by
  intro i hi
  unfold onG
  split
  · decide
  · split
    · decide
    next z1 z2 =>
      rcases hS with ⟨-, a, -⟩ | ⟨v, g, d, b, a, ⟨-, hg⟩, -, -, -, -, m⟩
      · exact absurd a z2
      · rw [(m i hi).1]; exact hg i hi
theorem onG_cl {M : Mem} {t w : Nat} (hS : SlC M t w) : ∀ i, i < wN (pg M t) w → wN (pg M t) w ≤ 10 → mJ M 23 (4 * t + w + 2) i = onG M t w 1 i := by
  intro i hi hn
  unfold onG
  rw [if_neg (by decide)]
  rcases hS with ⟨-, a, c⟩ | ⟨v, g, d, b, a, ⟨-, hg⟩, -, ⟨-, -, -, c⟩, m1, -, m⟩
  · rw [if_pos a]; exact c i (by omega)
  · rw [if_neg (by rw [m1]; decide), (m i hi).1]; exact (c i hi).1
set_option maxRecDepth 8000 in
theorem cl_solve (Ω : Om) (M : Mem) (nt : Nat) (o : Option Nat) (x v s on : Int32) (h : Inv M) (h1 : HdC M nt o) (hG : Gst M) (hT : Txt M nt) (hS : Sta M) (hon : on = 0 ∨ on = 1) (K : Ka)
    (hN : (RwN M o x ∨ inR 1 40 v = false ∨ inR (-30) 30 s = false) → K (some (vI (-1))) M)
    (hY : ∀ t w, RwY M o x t w → inR 1 40 v = true → inR (-30) 30 s = true → ∀ M1, Un wC M M1 → Un (wV (4 * t + w + 2)) M M1 → (rnR (evG M t w v s (nI 0)) (onG M t w on) = -2 → Un wX M M1) → (¬ rnR (evG M t w v s (nI 0)) (onG M t w on) = -2 → KpC M1 (4 * t + w + 2) (evG M t w v s (nI 0)) (onG M t w on)) → K (some (vI (rnR (evG M t w v s (nI 0)) (onG M t w on)))) M1) :
    CallS Ω true m_WH_solve [vR (some (11, 0)), vI x, vI v, vI s, vI on] M K := by
  refine pr_solve h1 x v s on (fun t w hY' => ?_) (fun hN' => hN (Or.inl hN')) (rw_res h1 hT x)
  obtain ⟨hW, hC, hL, h44, hx⟩ := hY'.ok
  have hw4 := hY'.w4
  have ht : t < nt := h1.2.2.2 t hY'.1
  have hS2 := (hT t ht).2 w hw4
  have hn3 := hW.n.2.2.1
  refine go_wp ok_WH_solve [86] 250 _ _ _ _ _ _ ?_
  conv => whnf
  refine cl_use (fun K h => c_WH_isSpeed Ω _ v K h) trivial ?_
  refine br_bz (fun q => hN (Or.inr (Or.inl q))) (fun q1 => ?_)
  conv => whnf
  refine cl_use (fun K h => c_WH_isSlant Ω _ s K h) trivial ?_
  refine br_bn (fun q2 => ?_) (fun q => hN (Or.inr (Or.inr q)))
  conv => whnf
  refine ⟨fun r M' => r = none ∧ Un wSo M M' ∧ CE M' t (evG M t w v s (nI 0)) ∧ ∀ i, i < 10 → mJ M' 23 0 i = 0, c_setG Ω M t w v s _ hG hS hW hC hL h44 (fun M' a b c d => ⟨rfl, a, b, c⟩), trivial, ?_⟩
  rintro r M1 ⟨rfl, hU1, hE1, h23⟩
  have hX1 := hU1.mono sc_So
  conv => whnf
  have fin : ∀ M2 : Mem, Un wC M M2 → Un wX M M2 → CE M2 t (evG M t w v s (nI 0)) → (∀ i, i < wN (pg M t) w → mJ M2 23 0 i = onG M t w on i) → GoS Ω true m_WH_solve K 86 [some (vR (some (11, 0))), some (vI x), some (vI v), some (vI s), some (vI on), some (vR (some (7, t))), some (vR (some (10, 4 * t + w)))] [] M2 0 0 := by
    intro M2 hC2 hX2 hE2 h23'
    refine go_wp ok_WH_solve [] 250 _ _ _ _ _ _ ?_
    conv => whnf
    refine ⟨fun r M' => (∃ y, r = some (vI y)) ∧ K r M', c_sak Ω M2 t (evG M t w v s (nI 0)) (onG M t w on) _ hE2 (evG_ok hW (by decide)) (onG_bd hS2) h23' (fun M' b0 b1 b2 b3 => ⟨⟨_, rfl⟩, hY t w hY' q1 q2 M' (hC2.trans b0) ((hX2.mono wV_x).trans b1) (fun z => hX2.trans (b2 z)) b3⟩), trivial, ?_⟩
    rintro r M3 ⟨⟨y, rfl⟩, hr⟩
    conv => whnf
    exact hr
  refine And.intro (fun z => ?_) (fun z => ?_)
  · exact fin M1 (hU1.mono (wC_of mC_So)) hX1 hE1 (fun i hi => by rw [h23 i (by omega)]; unfold onG; rw [if_pos z])
  · have z1 : on = 1 := by
      rcases hon with e | e
      · exact absurd e z
      · exact e
    conv => whnf
    refine cl_use (fun K h => c_startFrom Ω M1 0 (4 * t + w + 2) K h) trivial ?_
    conv => whnf
    have hU2 : Un wRd M1 (sCpJ M1 23 (4 * t + w + 2) 23 0 0 0 10) := Un.rfl.cp (fun _ => rfl)
    refine fin _ ((hU1.mono (wC_of mC_So)).trans (hU2.mono (wC_of mC_Rd))) (hX1.trans (hU2.mono sc_Rd)) (hE1.un hU2) (fun i hi => ?_)
    refine (mJ_cp _ _ _ _ _ _ _ _ _).trans ((if_pos ⟨rfl, rfl, by omega⟩).trans ?_)
    rw [hU1.J (show wSo 23 (4 * t + w + 2) i = false from rfl), z1]
    exact onG_cl hS2 i hi hn3
set_option maxRecDepth 8000 in
theorem md_solve (Ω : Om) (M : Mem) (nt : Nat) (o : Option Nat) (x v s on : Int32) (h1 : HdM M nt o) (K : Ka) (hon : on = 0 ∨ on = 1)
    (hR : RwN M o x ∨ ∃ t w, RwY M o x t w)
    (hN : (RwN M o x ∨ inR 1 40 v = false ∨ inR (-30) 30 s = false) → K (some (vI (-1))) M)
    (hY : ∀ t w, RwY M o x t w → inR 1 40 v = true → inR (-30) 30 s = true → ∀ M2, Un wM M M2 → Un (wV (4 * t + w + 2)) M M2 → (rnR (evG M t w v s (nI 0)) (onG M t w on) = -2 → Un wX M M2) → (¬ rnR (evG M t w v s (nI 0)) (onG M t w on) = -2 → KpM M2 (4 * t + w) (evG M t w v s (nI 0)) (onG M t w on)) → K (some (vI (rnR (evG M t w v s (nI 0)) (onG M t w on)))) M2) :
    CallS Ω true m_MD_solve [vR (some (12, 0)), vI x, vI v, vI s, vI on] M K := by
  refine call_go (hJL rfl) (Nat.le_of_ble_eq_true rfl) (go_wp ok_MD_solve [46] 250 _ _ _ _ _ _ ?_)
  conv => whnf
  rcases hR with hN' | ⟨t, w, hY'⟩
  · refine cl_use (fun K h => c_MD_rowN' Ω M nt o x K h1 hN' h) trivial ?_
    exact And.intro (fun _ => hN (Or.inl hN')) (fun a => absurd rfl a)
  · obtain ⟨hW, hC, hL, h44, hx⟩ := hY'.ok
    have hw4 := hY'.w4
    have ht : t < nt := h1.2.2.2 t hY'.1
    have hnt := h1.1
    have hn3 := hW.n.2.2.1
    refine cl_use (fun K h => c_MD_rowY Ω M nt t w o x K h1 hY' h) trivial ?_
    refine And.intro (fun a => absurd a (nI_nm1 (by omega))) (fun _ => ?_)
    conv => whnf
    refine cl_use (fun K h => c_MD_isSpeed Ω _ v K h) trivial ?_
    refine br_bz (fun q => hN (Or.inr (Or.inl q))) (fun q1 => ?_)
    conv => whnf
    refine cl_use (fun K h => c_MD_isSlant Ω _ s K h) trivial ?_
    refine br_bn (fun q2 => ?_) (fun q => hN (Or.inr (Or.inr q)))
    conv => whnf
    refine ⟨fun r M' => r = none ∧ Un wSt M M' ∧ ME M' t (evG M t w v s (nI 0)), c_MD_stands Ω M t w v s 1 1 _ (by omega) hw4 hW (Or.inr rfl) (Or.inr rfl) (fun M' a b c d e f g i => ⟨rfl, a, b⟩), trivial, ?_⟩
    rintro r M1 ⟨rfl, hU1, hE1⟩
    conv => whnf
    refine ⟨fun r M' => r = none ∧ Un wGm M1 M' ∧ (∀ i, i < 10 → mJ M' 113 0 i = 0), c_MD_rests Ω M1 _ (fun M' a b => ⟨rfl, a, b⟩), trivial, ?_⟩
    rintro r M2 ⟨rfl, hU2, h113⟩
    conv => whnf
    have hX2 : Un wX M M2 := (hU1.mono sc_St).trans (hU2.mono sc_Gm)
    have hM2 : Un wM M M2 := (hU1.mono (wM_of mM_St)).trans (hU2.mono (wM_of mM_Gm))
    have hE2 := hE1.un (hU2.mono wGm_rm)
    have fin : ∀ (j : Int32) (M3 : Mem), Un wRm M2 M3 → (∀ i, i < wN (pg M t) w → mJ M3 113 0 i = onG M t w on i) → GoS Ω true m_MD_solve K 96 [some (vR (some (12, 0))), some (vI x), some (vI v), some (vI s), some (vI on), some (vI (nI (4 * t + w))), some (vI j)] [] M3 0 0 := by
      intro j M3 hU3 hg3
      refine go_wp ok_MD_solve [] 250 _ _ _ _ _ _ ?_
      conv => whnf
      have hq := c_rk Ω M3 t (evG M t w v s (nI 0)) (onG M t w on) (hE2.un hU3) (evG_ok hW (by decide)) hg3 (fun r M' => (∃ y, r = some (vI y)) ∧ K r M') (fun M' b0 b1 b2 b3 => ⟨⟨_, rfl⟩, hY t w hY' q1 q2 M' (hM2.trans ((hU3.mono (wM_of mM_Rm)).trans b0)) ((hX2.trans (hU3.mono sc_Rm)).mono wV_x |>.trans b1) (fun z => (hX2.trans (hU3.mono sc_Rm)).trans (b2 z)) b3⟩)
      obtain ⟨K0, c1, -, c2⟩ := hq
      refine ⟨K0, c1, trivial, ?_⟩
      intro r M4 hr
      obtain ⟨y, rfl, K1, c3, -, c4⟩ := c2 r M4 hr
      conv => whnf
      refine ⟨K1, c3, trivial, ?_⟩
      intro r5 M5 hr5
      obtain ⟨⟨y5, rfl⟩, hk⟩ := c4 r5 M5 hr5
      conv => whnf
      exact hk
    have h119 : mI M2 119 0 (4 * t + w) = mI M 119 0 (4 * t + w) := hX2.I rfl
    have e72 : mI M2 12 0 72 = nI (wN (pg M t) w) := hE2.2.2.1
    by_cases hz : on = 0 ∨ mI M 119 0 (4 * t + w) = 0
    · have hg0 : ∀ i, i < wN (pg M t) w → mJ M2 113 0 i = onG M t w on i := fun i hi => by
        rw [h113 i (by omega)]
        unfold onG
        rcases hz with e | e
        · rw [if_pos e]
        · rw [if_pos e]; split <;> rfl
      refine go_wp ok_MD_solve [96] 250 _ _ _ _ _ _ ?_
      refine And.intro (fun _ => fin _ M2 Un.rfl hg0) (fun _ => ?_)
      refine And.intro (fun _ => fin _ M2 Un.rfl hg0) (fun zo => ?_)
      conv => whnf
      refine And.intro (vp_in_nI (by omega) (by decide)) ?_
      rw [nI_clamp (by omega), h119]
      refine And.intro (fun _ => fin _ M2 Un.rfl hg0) (fun zs => ?_)
      rcases hz with e | e
      · exact absurd e zo
      · exact absurd e zs
    · have z1 : ¬ on = 0 := fun q => hz (Or.inl q)
      have z2 : ¬ mI M 119 0 (4 * t + w) = 0 := fun q => hz (Or.inr q)
      refine loopN (wN (pg M t) w) (fun j M3 => Un wGm M2 M3 ∧ ∀ i, i < j → mJ M3 113 0 i = onG M t w on i) (fun j M3 => GoS Ω true m_MD_solve K 46 [some (vR (some (12, 0))), some (vI x), some (vI v), some (vI s), some (vI on), some (vI (nI (4 * t + w))), some (vI (nI j))] [] M3 0 0) ?_ ?_ 0 M2 (Nat.zero_le _) ⟨Un.rfl, fun i h => absurd h (Nat.not_lt_zero _)⟩
      · rintro j M3 hj ⟨hU3, hA⟩ hN3
        refine go_wp ok_MD_solve [46] 250 _ _ _ _ _ _ ?_
        refine And.intro (fun a => ?_) (fun _ => And.intro (fun a => absurd a z1) (fun _ => ?_))
        · rw [(hU3.I rfl).trans e72, nI_leI (by omega) (by omega)] at a; omega
        conv => whnf
        refine And.intro (vp_in_nI (by omega) (by decide)) ?_
        rw [nI_clamp (by omega), (hU3.I (k := 119) rfl).trans h119]
        refine And.intro (fun a => absurd a z2) (fun _ => ?_)
        conv => whnf
        rw [show (10 : Int32) = nI 10 from rfl, pk_mul, nI_add]
        refine And.intro (vp_in_nI (by omega) (by decide)) ?_
        conv => whnf
        refine And.intro (vp_in_nI (by omega) (by decide)) ?_
        rw [nI_clamp (by omega), nI_clamp (by omega), (hU3.J (k := 121) rfl).trans (hX2.J rfl)]
        have := hN3 (sJ M3 113 0 j (mJ M 121 0 (10 * (4 * t + w) + j))) ⟨hU3.pJ rfl, fun i hi => ?_⟩
        · rw [← nI_1] at this
          exact this
        · rw [mJ_sJ]
          by_cases e : i = j
          · rw [if_pos ⟨rfl, rfl, e⟩, e]; unfold onG; rw [if_neg z1, if_neg z2]
          · rw [if_neg (fun q => e q.2.2)]; exact hA i (by omega)
      · rintro M3 ⟨hU3, hA⟩
        refine go_wp ok_MD_solve [96] 250 _ _ _ _ _ _ ?_
        refine And.intro (fun _ => fin _ M3 (hU3.mono wGm_rm) hA) (fun a => ?_)
        rw [(hU3.I rfl).trans e72, nI_leI (by omega) (by omega)] at a; omega
theorem RwN.un {w : Nat → Nat → Nat → Bool} {M M' : Mem} {o : Option Nat} {x : Int32} (h : RwN M o x) (hU : Un w M M') (hw : Av cTx w) : RwN M' o x := by
  rcases h with h | ⟨t, nl, nh, nw, nb, Ls, a, b, c⟩
  · exact Or.inl h
  · exact Or.inr ⟨t, nl, nh, nw, nb, Ls, a, b.un hU hw, c⟩
theorem RwY.un {w0 : Nat → Nat → Nat → Bool} {M M' : Mem} {o : Option Nat} {x : Int32} {t w : Nat} (h : RwY M o x t w) (hU : Un w0 M M') (hw : Av cTx w0) : RwY M' o x t w := by
  obtain ⟨a, nl, nh, nw, nb, Ls, b, c, d⟩ := h
  exact ⟨a, nl, nh, nw, nb, Ls, b.un hU hw, c, d⟩
theorem cTx_all {k i s : Nat} (q : cTx k i s = true) : cAll k i s = true := by unfold cAll; rw [q]; rfl
theorem wV_av (f : Nat) : Av cTx (wV (f + 2)) := fun k i s q => by
  unfold wV wX
  rw [cTx_all q]
  show cSl (f + 2) k i s = false
  cases e : cSl (f + 2) k i s with
  | false => rfl
  | true =>
    have e2 : ((k = 2 ∨ k = 23 ∨ k = 24 ∨ k = 25 ∨ k = 26)) ∨ (k = 119 ∨ k = 120 ∨ k = 121 ∨ k = 122 ∨ k = 123 ∨ k = 124) := by
      simp [cSl, nb_d, nl_d] at e
      omega
    rcases e2 with (rfl | rfl | rfl | rfl | rfl) | rfl | rfl | rfl | rfl | rfl | rfl <;> cases q
/-- cells that only the class writes, while a wing is kept -/
theorem evG_un {M M' : Mem} {t w f : Nat} {v s h : Int32} (hU : Un (wV (f + 2)) M M') : evG M' t w v s h = evG M t w v s h := by
  have e := pg_av hU (wV_av f) t
  have e2 : (fun i => mI M' 112 0 i) = fun i => mI M 112 0 i := funext fun i => hU.I rfl
  unfold evG
  rw [e, e2]
theorem no_both {M M1 : Mem} {t : Nat} {o : Option Nat} {x : Int32} (h1 : RwN M o x) : ∀ w, ¬ RwY M o x t w := by
  rintro w ⟨e, nl, nh, nw, nb, Ls, ⟨hO, -⟩, hw, ex⟩
  rcases h1 with h | ⟨t', nl', nh', nw', nb', Ls', e', ⟨hO', -⟩, hno⟩
  · rw [h] at e; cases e
  · rw [e] at e'
    cases e'
    have l3 := hO.2.2.2.2.1.2.2.1
    have l3' := hO'.2.2.2.2.1.2.2.1
    have := hO.2.2.1.symm.trans hO'.2.2.1
    rw [nI_eq (by omega) (by omega)] at this
    exact hno w (by omega) ex
