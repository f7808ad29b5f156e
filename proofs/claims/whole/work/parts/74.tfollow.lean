/-! TURNS, X: follow -/
/-- a wing asked behind a leader -/
def evF (M : Mem) (t w l : Nat) (v s off : Int32) : Ev := (pg M t, w, v, nI 0, bsS (pg M t) w s (hxS 1 (pg M t 83)) (hxS 1 (fun i => mI M 112 0 i)), fun i => aHd (fun k => mJ M 121 0 (10 * (4 * t + l) + k)) (wN (pg M t) l) off i (wN (pg M t) l + 1))
theorem evF_ok {M : Mem} {t w l : Nat} {v s off : Int32} (hW : WgOK (pg M t) w) : EvOK (evF M t w l v s off) := ⟨hW, 0, by decide, rfl⟩
theorem evF_un {M M' : Mem} {t w l f : Nat} {v s off : Int32} (hU : Un (wV (f + 2)) M M') (hC : Un wC M M') : evF M' t w l v s off = evF M t w l v s off := by
  have e := pg_av hU (wV_av f) t
  have e2 : (fun i => mI M' 112 0 i) = fun i => mI M 112 0 i := funext fun i => hU.I rfl
  have e3 : (fun k => mJ M' 121 0 (10 * (4 * t + l) + k)) = fun k => mJ M 121 0 (10 * (4 * t + l) + k) := funext fun k => hC.J rfl
  unfold evF
  rw [e, e2, e3]
theorem CE.a {M M' : Mem} {t w : Nat} {T : Tx} {v h : Int32} {b : Nat → Int32} {a a' : Nat → Int64} (hE : CE M t (T, w, v, h, b, a)) (hU : Un wWa M M') (h40 : ∀ i, i < wN T w → mJ M' 40 0 i = a' i / (14549535 * (T 87 w).toInt64)) : CE M' t (T, w, v, h, b, a') := by
  obtain ⟨a1, a2, a3, a4, a5, a6, a7, a8, a9, a10⟩ := hE
  refine ⟨(hU.R rfl).trans a1, (hU.R rfl).trans a2, (hU.I rfl).trans a3, (hU.I rfl).trans a4, (hU.I rfl).trans a5, fun i hi => (hU.J rfl).trans (a6 i hi), h40, a8.un hU (fun _ _ => rfl) (fun k i s h1 h2 => ?_), fun i hi k hk q => (a9 i hi k hk q).un hU (fun _ _ => rfl) (fun _ _ => rfl) (fun _ _ => rfl), fun j hj => (hU.I rfl).trans (a10 j hj)⟩
  rcases (show k = 57 ∨ k = 58 ∨ k = 59 ∨ k = 60 ∨ k = 61 ∨ k = 62 by omega) with rfl | rfl | rfl | rfl | rfl | rfl <;> rfl
theorem inR_o {v : Int32} (h : inR (-20) 20 v = true) : -20 ≤ v.toInt ∧ v.toInt ≤ 20 := by
  obtain ⟨a, b⟩ := inR_t.mp h
  rw [Int32.le_iff_toInt_le] at a b
  exact ⟨a, b⟩
set_option maxRecDepth 8000 in
theorem cl_follow (Ω : Om) (M : Mem) (nt : Nat) (o : Option Nat) (x v s y of_ : Int32) (h1 : HdC M nt o) (hG : Gst M) (hT : Txt M nt) (hS : Sta M) (K : Ka)
    (hN : (∀ t w l, RwY M o x t w → RwY M o y t l → l ≠ w → ¬ mI M 119 0 (4 * t + l) = 0 → inR 1 40 v = true → inR (-30) 30 s = true → inR (-20) 20 of_ = true → False) → K (some (vI (-1))) M)
    (hY : ∀ t w l, RwY M o x t w → RwY M o y t l → l ≠ w → ¬ mI M 119 0 (4 * t + l) = 0 → inR 1 40 v = true → inR (-30) 30 s = true → inR (-20) 20 of_ = true → ∀ M1, Un wC M M1 → Un (wV (4 * t + w + 2)) M M1 → (rnR (evF M t w l v s of_) (fun _ => 0) = -2 → Un wX M M1) → (¬ rnR (evF M t w l v s of_) (fun _ => 0) = -2 → KpC M1 (4 * t + w + 2) (evF M t w l v s of_) (fun _ => 0)) → K (some (vI (rnR (evF M t w l v s of_) (fun _ => 0)))) M1) :
    CallS Ω true m_WH_follow [vR (some (11, 0)), vI x, vI v, vI s, vI y, vI of_] M K := by
  refine call_go (hJL rfl) (Nat.le_of_ble_eq_true rfl) (go_wp ok_WH_follow [61] 250 _ _ _ _ _ _ ?_)
  conv => whnf
  rw [h1.2.2.1]
  refine cl_use (fun K h => c_textOfH Ω M nt o K h1 h) trivial ?_
  conv => whnf
  rcases rw_res h1 hT x with hNx | ⟨t, w, hYx⟩
  · have k := hN (fun t w l q _ _ _ _ _ _ => no_both (M1 := M) hNx w q)
    refine cl_use (fun K h => c_wingOfN' Ω M o x K hNx h) trivial ?_
    conv => whnf
    rcases rw_res h1 hT y with hNy | ⟨t, l, hYy⟩
    · refine cl_use (fun K h => c_wingOfN' Ω M o y K hNy h) trivial ?_
      cases o with
      | none => exact k
      | some t => exact k
    · obtain rfl := hYy.1
      refine cl_use (fun K h => c_wingOfY Ω M t l (some t) y K hYy h) trivial ?_
      exact k
  obtain rfl := hYx.1
  refine cl_use (fun K h => c_wingOfY Ω M t w (some t) x K hYx h) trivial ?_
  conv => whnf
  rcases rw_res h1 hT y with hNy | ⟨t', l, hYy⟩
  · have k := hN (fun t' w l _ q _ _ _ _ _ => no_both (M1 := M) hNy l q)
    refine cl_use (fun K h => c_wingOfN' Ω M (some t) y K hNy h) trivial ?_
    exact k
  have := hYy.1
  cases this
  refine cl_use (fun K h => c_wingOfY Ω M t l (some t) y K hYy h) trivial ?_
  have hw4 := hYx.w4
  have hl4 := hYy.w4
  have ht : t < nt := h1.2.2.2 t rfl
  have ex := hYx.ok.2.2.2.2
  have ey := hYy.ok.2.2.2.2
  have hSl := (hT t ht).2 l hl4
  have h2l : mI M 2 (4 * t + l + 2) 6 = 0 ∧ mI M 119 0 (4 * t + l) = 0 ∨ mI M 2 (4 * t + l + 2) 6 = 1 ∧ mI M 119 0 (4 * t + l) = 1 ∧ mI M 2 (4 * t + l + 2) 4 = nI (wN (pg M t) l) ∧ ∀ i, i < wN (pg M t) l → mJ M 23 (4 * t + l + 2) i = mJ M 121 0 (10 * (4 * t + l) + i) := by
    rcases hSl with ⟨a, b, -⟩ | ⟨v', g, d, b, a, -, -, ⟨c1, c2, -, c4⟩, m1, -, m3⟩
    · exact Or.inl ⟨a, b⟩
    · exact Or.inr ⟨c1, m1, c2, fun i hi => (c4 i hi).1.trans (m3 i hi).1.symm⟩
  refine And.intro (fun z => ?_) (fun z => ?_)
  · refine hN (fun t' w' l' q1 q2 hne _ _ _ _ => ?_)
    obtain ⟨rfl, rfl⟩ := rw_uq hYx q1
    obtain ⟨-, rfl⟩ := rw_uq hYy q2
    rw [ex, ey, nI_eq (by omega) (by omega)] at z
    exact hne z
  have hne : l ≠ w := fun e => z (by rw [ex, ey, e])
  conv => whnf
  refine And.intro (fun z2 => ?_) (fun z2 => ?_)
  · have hsol : ¬ mI M 119 0 (4 * t + l) = 0 := by
      rcases h2l with ⟨a, -⟩ | ⟨-, b, -⟩
      · exact absurd a z2
      · rw [b]; decide
    have hrow : mI M 2 (4 * t + l + 2) 4 = nI (wN (pg M t) l) ∧ ∀ i, i < wN (pg M t) l → mJ M 23 (4 * t + l + 2) i = mJ M 121 0 (10 * (4 * t + l) + i) := by
      rcases h2l with ⟨a, -⟩ | ⟨-, -, b, c⟩
      · exact absurd a z2
      · exact ⟨b, c⟩
    obtain ⟨hW, hC, hL, h44, -⟩ := hYx.ok
    obtain ⟨hWl, -⟩ := hYy.ok
    have hn3 := hW.n.2.2.1
    have hm3 := hWl.n.2.2.1
    have hbad : (inR 1 40 v = false ∨ inR (-30) 30 s = false ∨ inR (-20) 20 of_ = false) → K (some (vI (-1))) M := fun q => hN (fun _ _ _ _ _ _ _ q1 q2 q3 => by
      rcases q with q | q | q
      · rw [q1] at q; cases q
      · rw [q2] at q; cases q
      · rw [q3] at q; cases q)
    refine go_wp ok_WH_follow [] 250 _ _ _ _ _ _ ?_
    conv => whnf
    refine cl_use (fun K h => c_WH_isSpeed Ω _ v K h) trivial ?_
    refine br_bz (fun q => hbad (Or.inl q)) (fun q1 => ?_)
    conv => whnf
    refine cl_use (fun K h => c_WH_isSlant Ω _ s K h) trivial ?_
    refine br_bz (fun q => hbad (Or.inr (Or.inl q))) (fun q2 => ?_)
    refine And.intro (fun a => hbad (Or.inr (Or.inr (inR_l a)))) (fun z3 => And.intro (fun z4 => ?_) (fun a => hbad (Or.inr (Or.inr (inR_r (Int32.not_le.mp a))))))
    have q3 : inR (-20) 20 of_ = true := inR_t.mpr ⟨Int32.not_lt.mp z3, z4⟩
    conv => whnf
    refine ⟨fun r M' => r = none ∧ Un wSo M M' ∧ CE M' t (evG M t w v s (nI 0)) ∧ ∀ i, i < 10 → mJ M' 23 0 i = 0, c_setG Ω M t w v s _ hG hS hW hC hL h44 (fun M' a b c d => ⟨rfl, a, b, c⟩), trivial, ?_⟩
    rintro r M1 ⟨rfl, hU1, hE1, h23⟩
    conv => whnf
    have hY0 := eY_ne (E := evG M t w v s (nI 0)) hW
    refine ⟨fun r M' => r = none ∧ Un wWa M1 M' ∧ ∀ i, i < wN (pg M t) w → mJ M' 40 0 i = aHd (fun k => mJ M 121 0 (10 * (4 * t + l) + k)) (wN (pg M t) l) of_ i (wN (pg M t) l + 1) / (14549535 * (pg M t 87 w).toInt64), c_comeBehind Ω M1 t w (4 * t + l + 2) (wN (pg M t) l) (pg M t 87 w) of_ (wN (pg M t) w) _ _ hn3 hm3 (inR_o q3) hE1.2.1 hE1.2.2.2.1 ((hU1.I (k := 10) rfl).trans hC.2.1) hY0 ((hU1.I (show wSo 2 (4 * t + l + 2) 4 = false from rfl)).trans hrow.1) (fun i hi => (hU1.J (show wSo 23 (4 * t + l + 2) i = false from rfl)).trans (hrow.2 i hi)) (fun M' a b => ⟨rfl, a, b⟩), trivial, ?_⟩
    rintro r M2 ⟨rfl, hU2, h40⟩
    have hE2 : CE M2 t (evF M t w l v s of_) := CE.a hE1 hU2 h40
    conv => whnf
    refine ⟨fun r M' => (∃ y, r = some (vI y)) ∧ K r M', c_sak Ω M2 t (evF M t w l v s of_) (fun _ => 0) _ hE2 (evF_ok hW) GB0 (fun i hi => (hU2.J rfl).trans (h23 i (by have : i < wN (pg M t) w := hi; omega))) (fun M' b0 b1 b2 b3 => ⟨⟨_, rfl⟩, hY t w l hYx hYy hne hsol q1 q2 q3 M' (((hU1.mono (wC_of mC_So)).trans (hU2.mono (wC_of mC_Wa))).trans b0) ((((hU1.mono sc_So).trans (hU2.mono sc_Wa)).mono wV_x).trans b1) (fun z => ((hU1.mono sc_So).trans (hU2.mono sc_Wa)).trans (b2 z)) b3⟩), trivial, ?_⟩
    rintro r M3 ⟨⟨y, rfl⟩, hr⟩
    conv => whnf
    exact hr
  · refine hN (fun t' w' l' q1 q2 _ hsol _ _ _ => ?_)
    obtain ⟨rfl, rfl⟩ := rw_uq hYy q2
    rcases h2l with ⟨-, b⟩ | ⟨a, -⟩
    · exact hsol b
    · rw [a] at z2; exact absurd z2 (by decide)
