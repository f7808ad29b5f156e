/-! TURNS, XI: follow -/
def wLe (k _i s : Nat) : Bool := Nat.beq k 12 && (Nat.beq s 76 || Nat.beq s 77)
theorem wLe_pg : ∀ (f s : Nat), 74 ≤ f → f ≤ 108 → wLe f 0 s = false := fun f s h1 h2 => by simp [wLe, nb_d]; omega
theorem ME.a {M M' : Mem} {p w l m : Nat} {T : Tx} {v h off : Int32} {b : Nat → Int32} {a a' : Nat → Int64} (hE : ME M p (T, w, v, h, b, a)) (hU : Un wLe M M') (h76 : mI M' 12 0 76 = nI l) (h77 : mI M' 12 0 77 = off) (hl : l < 20) (hm : mI M' 86 0 l = nI m) (hm10 : m ≤ 10) (ha : ∀ i, i < wN T w → a' i = aHd (fun k => mJ M' 121 0 (10 * l + k)) m off i (m + 1)) :
    ME M' p (T, w, v, h, b, a') := by
  obtain ⟨⟨a0, a1, a2⟩, a3, a4, a5, a6, a7, a8⟩ := hE
  have ep : pg M' p = pg M p := pg_un hU wLe_pg p
  refine ⟨⟨a0, a1, ?_⟩, (hU.I rfl).trans a3, (hU.I rfl).trans a4, (hU.I rfl).trans a5, (hU.I rfl).trans a6, fun i hi => ?_, Or.inr ⟨l, m, hl, h76, hm, hm10, fun i hi => ?_⟩⟩
  · rw [ep]; exact a2
  · rw [ep, hU.I (k := 12) (s := 74) rfl, hU.I (k := 12) (s := 78) rfl, hU.I (k := 12) (s := 79) rfl, hU.I (k := 118) rfl, hU.I (k := 112) rfl]
    exact a7 i hi
  · rw [h77]
    exact ha i hi
set_option maxRecDepth 8000 in
theorem md_follow (Ω : Om) (M : Mem) (nt : Nat) (o : Option Nat) (x v s y of_ : Int32) (h1 : HdM M nt o) (K : Ka)
    (hRx : RwN M o x ∨ ∃ t w, RwY M o x t w) (hRy : RwN M o y ∨ ∃ t w, RwY M o y t w)
    (hN : (∀ t w l, RwY M o x t w → RwY M o y t l → l ≠ w → ¬ mI M 119 0 (4 * t + l) = 0 → inR 1 40 v = true → inR (-30) 30 s = true → inR (-20) 20 of_ = true → False) → K (some (vI (-1))) M)
    (hY : ∀ t w l, RwY M o x t w → RwY M o y t l → l ≠ w → ¬ mI M 119 0 (4 * t + l) = 0 → inR 1 40 v = true → inR (-30) 30 s = true → inR (-20) 20 of_ = true → ∀ M2, Un wM M M2 → Un (wV (4 * t + w + 2)) M M2 → (rnR (evF M t w l v s of_) (fun _ => 0) = -2 → Un wX M M2) → (¬ rnR (evF M t w l v s of_) (fun _ => 0) = -2 → KpM M2 (4 * t + w) (evF M t w l v s of_) (fun _ => 0)) → K (some (vI (rnR (evF M t w l v s of_) (fun _ => 0)))) M2) :
    CallS Ω true m_MD_follow [vR (some (12, 0)), vI x, vI v, vI s, vI y, vI of_] M K := by
  have hnt := h1.1
  have ht4 : ∀ t, o = some t → t < 4 := fun t q => by have := h1.2.2.2 t q; omega
  refine call_go (hJL rfl) (Nat.le_of_ble_eq_true rfl) (go_wp ok_MD_follow [] 250 _ _ _ _ _ _ ?_)
  conv => whnf
  rcases hRx with hNx | ⟨t, w, hYx⟩
  · have k := hN (fun t w l q _ _ _ _ _ _ => no_both (M1 := M) hNx w q)
    refine cl_use (fun K h => c_MD_rowN' Ω M nt o x K h1 hNx h) trivial ?_
    conv => whnf
    rcases hRy with hNy | ⟨t, l, hYy⟩
    · refine cl_use (fun K h => c_MD_rowN' Ω M nt o y K h1 hNy h) trivial ?_
      exact And.intro (fun _ => k) (fun a => absurd rfl a)
    · refine cl_use (fun K h => c_MD_rowY Ω M nt t l o y K h1 hYy h) trivial ?_
      exact And.intro (fun _ => k) (fun a => absurd rfl a)
  have hw4 := hYx.w4
  have ht := ht4 t hYx.1
  refine cl_use (fun K h => c_MD_rowY Ω M nt t w o x K h1 hYx h) trivial ?_
  conv => whnf
  rcases hRy with hNy | ⟨t', l, hYy⟩
  · have k := hN (fun t' w l _ q _ _ _ _ _ => no_both (M1 := M) hNy l q)
    refine cl_use (fun K h => c_MD_rowN' Ω M nt o y K h1 hNy h) trivial ?_
    exact And.intro (fun _ => k) (fun _ => And.intro (fun _ => k) (fun a => absurd rfl a))
  have e := hYx.1.symm.trans hYy.1
  cases e
  have hl4 := hYy.w4
  refine cl_use (fun K h => c_MD_rowY Ω M nt t l o y K h1 hYy h) trivial ?_
  refine And.intro (fun a => absurd a (nI_nm1 (by omega))) (fun _ => And.intro (fun a => absurd a (nI_nm1 (by omega))) (fun _ => And.intro (fun z => ?_) (fun z => ?_)))
  · refine hN (fun t' w' l' q1 q2 hne _ _ _ _ => ?_)
    obtain ⟨rfl, rfl⟩ := rw_uq hYx q1
    obtain ⟨-, rfl⟩ := rw_uq hYy q2
    rw [nI_eq (by omega) (by omega)] at z
    omega
  have hne : l ≠ w := fun e => z (by rw [e])
  obtain ⟨hW, -⟩ := hYx.ok
  obtain ⟨hWl, -⟩ := hYy.ok
  have hn3 := hW.n.2.2.1
  have hm3 := hWl.n.2.2.1
  conv => whnf
  refine And.intro (vp_in_nI (by omega) (by decide)) ?_
  rw [nI_clamp (by omega)]
  refine And.intro (fun z2 => ?_) (fun hsol => ?_)
  · refine hN (fun t' w' l' q1 q2 _ hsol _ _ _ => ?_)
    obtain ⟨rfl, rfl⟩ := rw_uq hYy q2
    exact hsol z2
  have hbad : (inR 1 40 v = false ∨ inR (-30) 30 s = false ∨ inR (-20) 20 of_ = false) → K (some (vI (-1))) M := fun q => hN (fun _ _ _ _ _ _ _ q1 q2 q3 => by
    rcases q with q | q | q
    · rw [q1] at q; cases q
    · rw [q2] at q; cases q
    · rw [q3] at q; cases q)
  conv => whnf
  refine cl_use (fun K h => c_MD_isSpeed Ω _ v K h) trivial ?_
  refine br_bz (fun q => hbad (Or.inl q)) (fun q1 => ?_)
  conv => whnf
  refine cl_use (fun K h => c_MD_isSlant Ω _ s K h) trivial ?_
  refine br_bz (fun q => hbad (Or.inr (Or.inl q))) (fun q2 => ?_)
  conv => whnf
  refine cl_use (fun K h => c_MD_in Ω _ of_ (-20) 20 K h) trivial ?_
  refine br_bn (fun q3 => ?_) (fun q => hbad (Or.inr (Or.inr q)))
  conv => whnf
  refine ⟨fun r M' => r = none ∧ Un wSt M M' ∧ ME M' t (evG M t w v s (nI 0)), c_MD_stands Ω M t w v s 1 1 _ (by omega) hw4 hW (Or.inr rfl) (Or.inr rfl) (fun M' a b c d e f g i => ⟨rfl, a, b⟩), trivial, ?_⟩
  rintro r M2 ⟨rfl, hU1, hE1⟩
  conv => whnf
  refine ⟨fun r M' => r = none ∧ Un wGm M2 M' ∧ (∀ i, i < 10 → mJ M' 113 0 i = 0), c_MD_rests Ω M2 _ (fun M' a b => ⟨rfl, a, b⟩), trivial, ?_⟩
  rintro r M3 ⟨rfl, hU2, h113⟩
  conv => whnf
  have hX3 : Un wX M M3 := (hU1.mono sc_St).trans (hU2.mono sc_Gm)
  have hM3 : Un wM M M3 := (hU1.mono (wM_of mM_St)).trans (hU2.mono (wM_of mM_Gm))
  have hU3 : Un wSt M3 (sI (sI M3 12 0 76 (nI (4 * t + l))) 12 0 77 of_) := (Un.rfl.pI rfl).pI rfl
  have hX4 := hX3.trans (hU3.mono sc_St)
  have hM4 := hM3.trans (hU3.mono (wM_of mM_St))
  generalize hM5 : sI (sI M3 12 0 76 (nI (4 * t + l))) 12 0 77 of_ = M5 at hU3 hX4 hM4
  have hU5 : Un wLe M3 M5 := by rw [← hM5]; exact (Un.rfl.pI rfl).pI rfl
  have g76 : mI M5 12 0 76 = nI (4 * t + l) := by rw [← hM5, mI_sI, if_neg (fun q => absurd q.2.2 (by decide)), mI_sI, if_pos ⟨rfl, rfl, rfl⟩]
  have g77 : mI M5 12 0 77 = of_ := by rw [← hM5, mI_sI, if_pos ⟨rfl, rfl, rfl⟩]
  have g113 : ∀ i, i < 10 → mJ M5 113 0 i = 0 := fun i hi => by rw [← hM5]; exact h113 i hi
  clear hM5
  have hE4 : ME M5 t (evF M t w l v s of_) := by
    have q : ME M3 t (evG M t w v s (nI 0)) := hE1.un (hU2.mono wGm_rm)
    have e86 : mI M5 86 0 (4 * t + l) = nI (wN (pg M t) l) := (hX4.I rfl).trans hWl.n.1
    have e3 : (fun k => mJ M5 121 0 (10 * (4 * t + l) + k)) = fun k => mJ M 121 0 (10 * (4 * t + l) + k) := funext fun k => hX4.J rfl
    unfold evF
    exact ME.a q hU5 g76 g77 (by omega) e86 hm3 (fun i _ => by rw [e3])
  have hq := c_rk Ω _ t (evF M t w l v s of_) (fun _ => 0) hE4 (evF_ok hW) (fun i hi => g113 i (by have : i < wN (pg M t) w := hi; omega)) (fun r M' => (∃ y, r = some (vI y)) ∧ K r M') (fun M' c0 c1 c2 c3 => ⟨⟨_, rfl⟩, hY t w l hYx hYy hne hsol q1 q2 q3 M' (hM4.trans c0) ((hX4.mono wV_x).trans c1) (fun z => hX4.trans (c2 z)) c3⟩)
  obtain ⟨K0, c1, -, c2⟩ := hq
  refine ⟨K0, c1, trivial, ?_⟩
  intro r M4 hr
  obtain ⟨y, rfl, K1, c3, -, c4⟩ := c2 r M4 hr
  conv => whnf
  refine ⟨K1, c3, trivial, ?_⟩
  intro r5 M5 hr5
  obtain ⟨⟨y5, rfl⟩, hk⟩ := c4 r5 M5 hr5
  conv => whnf
  exact hk
theorem t_follow (Ω : Om) (M : Mem) (x v s y of_ : Int32) (h : Inv M) : Turn Ω tyI m_WH_follow m_MD_follow [vI x, vI v, vI s, vI y, vI of_] M := by
  obtain ⟨nt, o, a1, a2, a3, a4, a5, a6, a7, a8, a9, a10⟩ := id h
  by_cases hc : ∃ t w l, RwY M o x t w ∧ RwY M o y t l ∧ l ≠ w ∧ ¬ mI M 119 0 (4 * t + l) = 0 ∧ inR 1 40 v = true ∧ inR (-30) 30 s = true ∧ inR (-20) 20 of_ = true
  · obtain ⟨t, w, l, hYx, hYy, hne, hsol, q1, q2, q3⟩ := hc
    have hw4 := hYx.w4
    have ht : t < nt := a1.2.2.2 t hYx.1
    obtain ⟨hW, -⟩ := hYx.ok
    refine ⟨fun r M1 => r = some (vI (rnR (evF M t w l v s of_) (fun _ => 0))) ∧ Un wC M M1 ∧ Un (wV (4 * t + w + 2)) M M1 ∧ (rnR (evF M t w l v s of_) (fun _ => 0) = -2 → Un wX M M1) ∧ (¬ rnR (evF M t w l v s of_) (fun _ => 0) = -2 → KpC M1 (4 * t + w + 2) (evF M t w l v s of_) (fun _ => 0)), cl_follow Ω M nt o x v s y of_ a1 a5 a6 a10 _ (fun q => (q t w l hYx hYy hne hsol q1 q2 q3).elim) (fun t' w' l' hYx' hYy' _ _ _ _ _ M1 b0 b1 b2 b3 => ?_), ?_⟩
    · obtain ⟨rfl, rfl⟩ := rw_uq hYx hYx'
      obtain ⟨-, rfl⟩ := rw_uq hYy hYy'
      exact ⟨rfl, b0, b1, b2, b3⟩
    · rintro r M1 ⟨rfl, b0, b1, b2, b3⟩
      refine ⟨⟨_, rfl⟩, wV_141 b1, ?_⟩
      have hYx1 : RwY M1 o x t w := hYx.un b1 (wV_av _)
      have hYy1 : RwY M1 o y t l := hYy.un b1 (wV_av _)
      have e119 : mI M1 119 0 (4 * t + l) = mI M 119 0 (4 * t + l) := b0.I rfl
      refine md_follow Ω M1 nt o x v s y of_ (a2.un b0 rfl rfl) _ (Or.inr ⟨t, w, hYx1⟩) (Or.inr ⟨t, l, hYy1⟩) (fun q => (q t w l hYx1 hYy1 hne (by rw [e119]; exact hsol) q1 q2 q3).elim) (fun t' w' l' hYx' hYy' _ _ _ _ _ M2 c0 c1 c2 c3 => ?_)
      obtain ⟨rfl, rfl⟩ := rw_uq hYx1 hYx'
      obtain ⟨-, rfl⟩ := rw_uq hYy1 hYy'
      rw [evF_un b1 b0] at c2 c3 ⊢
      refine ⟨rfl, ?_, wV_141 c1⟩
      exact both_kept h (E := evF M t' w' l' v s of_) (g := fun _ => 0) rfl (evF_ok hW) hw4 (inR_v q1) GB0 b1 b2 b3 c1 c0 c2 c3
  · refine ⟨fun r M1 => r = some (vI (-1)) ∧ M1 = M, cl_follow Ω M nt o x v s y of_ a1 a5 a6 a10 _ (fun _ => ⟨rfl, rfl⟩) (fun t w l p1 p2 p3 p4 p5 p6 p7 => absurd ⟨t, w, l, p1, p2, p3, p4, p5, p6, p7⟩ hc), ?_⟩
    rintro r M1 ⟨rfl, rfl⟩
    exact ⟨⟨_, rfl⟩, fun _ => rfl, md_follow Ω M1 nt o x v s y of_ a2 _ (rw_res a1 a6 x) (rw_res a1 a6 y) (fun _ => ⟨rfl, h, fun _ => rfl⟩) (fun t w l p1 p2 p3 p4 p5 p6 p7 => absurd ⟨t, w, l, p1, p2, p3, p4, p5, p6, p7⟩ hc)⟩
