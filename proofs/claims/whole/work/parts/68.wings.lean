/-! WINGS BY NUMBER, in both; scratch -/
def RwN (M : Mem) (o : Option Nat) (x : Int32) : Prop := o = none ∨ ∃ t nl nh nw nb Ls, o = some t ∧ TxC M t nl nh nw nb Ls ∧ ∀ w, w < nw → x ≠ nI w
def RwY (M : Mem) (o : Option Nat) (x : Int32) (t w : Nat) : Prop := o = some t ∧ ∃ nl nh nw nb Ls, TxC M t nl nh nw nb Ls ∧ w < nw ∧ x = nI w
theorem rw_res {M : Mem} {nt : Nat} {o : Option Nat} (h : HdC M nt o) (hT : Txt M nt) (x : Int32) : RwN M o x ∨ ∃ t w, RwY M o x t w := by
  cases o with
  | none => exact Or.inl (Or.inl rfl)
  | some t =>
    obtain ⟨⟨nl, nh, nw, nb, Ls, hX⟩, -⟩ := hT t (h.2.2.2 t rfl)
    have l3 := hX.1.2.2.2.2.1.2.2.1
    rcases nI_cases x (n := nw) (by omega) with ⟨w, hw, e⟩ | hno
    · exact Or.inr ⟨t, w, rfl, nl, nh, nw, nb, Ls, hX, hw, e⟩
    · exact Or.inl (Or.inr ⟨t, nl, nh, nw, nb, Ls, rfl, hX, hno⟩)
theorem RwY.w4 {M : Mem} {o : Option Nat} {x : Int32} {t w : Nat} (h : RwY M o x t w) : w < 4 := by
  obtain ⟨-, nl, nh, nw, nb, Ls, hX, hw, -⟩ := h
  have l3 := hX.1.2.2.2.2.1.2.2.1
  omega
theorem RwY.ok {M : Mem} {o : Option Nat} {x : Int32} {t w : Nat} (h : RwY M o x t w) : WgOK (pg M t) w ∧ ClW M t w (pg M t) ∧ ClS M t w (pg M t) ∧ (∀ h, h < 4 → mI M 44 t h = pg M t 83 h) ∧ x = nI w := by
  obtain ⟨-, nl, nh, nw, nb, Ls, ⟨hO, hC, -⟩, hw, e⟩ := h
  refine ⟨(hO.2.2.2.2.2.2.2.2 w hw).1, hC.2.2.2.2.2.2.2 w hw, fun i hi k hk q => hC.2.2.2.2.1 k ((hO.2.2.2.2.2.2.2.2 w hw).2 i hi k hk q), hC.2.2.2.2.2.2.1, e⟩
theorem c_MD_rowY (Ω : Om) (M : Mem) (nt t w : Nat) (o : Option Nat) (x : Int32) (K : Ka) (h2 : HdM M nt o) (hY : RwY M o x t w) (h : K (some (vI (nI (4 * t + w)))) M) : CallS Ω true m_MD_row [vR (some (12, 0)), vI x] M K := by
  obtain ⟨rfl, nl, nh, nw, nb, Ls, ⟨hO, hC, -⟩, hw, rfl⟩ := hY
  have ht := h2.2.2.2 t rfl
  have := h2.1
  exact c_MD_row1 Ω M t nw w K (by omega) hO.2.2.2.2.1.2.2.1 h2.2.2.1 (by rw [pg1 (M := M) (f := 84) (p := t) rfl rfl]; exact hO.2.2.1) hw h
theorem c_MD_rowN' (Ω : Om) (M : Mem) (nt : Nat) (o : Option Nat) (x : Int32) (K : Ka) (h2 : HdM M nt o) (hN : RwN M o x) (h : K (some (vI (-1))) M) : CallS Ω true m_MD_row [vR (some (12, 0)), vI x] M K := by
  rcases hN with rfl | ⟨t, nl, nh, nw, nb, Ls, rfl, ⟨hO, hC, -⟩, hno⟩
  · exact c_MD_rowN Ω M x K h2.2.2.1 h
  · have ht := h2.2.2.2 t rfl
    have := h2.1
    exact c_MD_row0 Ω M t nw x K (by omega) hO.2.2.2.2.1.2.2.1 h2.2.2.1 (by rw [pg1 (M := M) (f := 84) (p := t) rfl rfl]; exact hO.2.2.1) hno h
theorem c_wingOfY (Ω : Om) (M : Mem) (t w : Nat) (o : Option Nat) (x : Int32) (K : Ka) (hY : RwY M o x t w) (h : K (some (vR (some (10, 4 * t + w)))) M) : CallS Ω true m_WH_wingOf [vR (some (7, t)), vI x] M K := by
  obtain ⟨rfl, nl, nh, nw, nb, Ls, ⟨hO, hC, -⟩, hw, rfl⟩ := hY
  exact c_wingOf1 Ω M t nw w K hO.2.2.2.2.1.2.2.1 hC.2.2.1 hw h
theorem c_wingOfN' (Ω : Om) (M : Mem) (o : Option Nat) (x : Int32) (K : Ka) (hN : RwN M o x) (h : K (some (vR none)) M) : CallS Ω true m_WH_wingOf [vR (o.map (fun t => (7, t))), vI x] M K := by
  rcases hN with rfl | ⟨t, nl, nh, nw, nb, Ls, rfl, ⟨hO, hC, -⟩, hno⟩
  · exact c_wingOfN Ω M x K h
  · exact c_wingOf0 Ω M t nw x K hO.2.2.2.2.1.2.2.1 hC.2.2.1 hno h
/-- what may change without a trace -/
def wX (k i s : Nat) : Bool := !(cAll k i s)
theorem wX_av : Av cAll wX := fun k i s h => by unfold wX; rw [h]; rfl
theorem sc_So : ∀ k i s, wX k i s = false → wSo k i s = false := by
  intro k i s h
  cases e : wSo k i s with
  | false => rfl
  | true =>
    simp [wSo, nb_d, nl_d] at e
    rcases (show ((k = 2 ∨ k = 23 ∨ k = 24 ∨ k = 25 ∨ k = 26) ∧ i = 0) ∨ (k = 38 ∨ k = 39 ∨ k = 40 ∨ k = 41 ∨ k = 6) by omega) with ⟨rfl | rfl | rfl | rfl | rfl, rfl⟩ | rfl | rfl | rfl | rfl | rfl <;> cases h
theorem sc_Rd : ∀ k i s, wX k i s = false → wRd k i s = false := fun k i s h => wSo_rd k i s (sc_So k i s h)
theorem sc_F0 : ∀ k i s, wX k i s = false → wFl 0 k i s = false := fun k i s h => wSo_fl k i s (sc_So k i s h)
theorem sc_F1 : ∀ k i s, wX k i s = false → wFl 1 k i s = false := by
  intro k i s h
  cases e : wFl 1 k i s with
  | false => rfl
  | true =>
    simp [wFl, nb_d, nl_d] at e
    rcases (show ((k = 2 ∨ k = 23 ∨ k = 24 ∨ k = 25 ∨ k = 26) ∧ i = 1) by omega) with ⟨rfl | rfl | rfl | rfl | rfl, rfl⟩ <;> cases h
theorem sc_Wa : ∀ k i s, wX k i s = false → wWa k i s = false := by
  intro k i s h
  cases e : wWa k i s with
  | false => rfl
  | true =>
    simp [wWa, nb_d, nl_d] at e
    subst e; cases h
theorem sc_Rm : ∀ k i s, wX k i s = false → wRm k i s = false := by
  intro k i s h
  cases e : wRm k i s with
  | false => rfl
  | true =>
    simp [wRm, nb_d, nl_d] at e
    rcases (show k = 113 ∨ k = 114 ∨ k = 115 ∨ k = 116 ∨ k = 117 by omega) with rfl | rfl | rfl | rfl | rfl <;> cases h
theorem sc_Gm : ∀ k i s, wX k i s = false → wGm k i s = false := fun k i s h => wGm_rm k i s (sc_Rm k i s h)
theorem sc_St : ∀ k i s, wX k i s = false → wSt k i s = false := by
  intro k i s h
  cases e : wSt k i s with
  | false => rfl
  | true =>
    simp [wSt, nb_d, nl_d] at e
    rcases e with rfl | ⟨rfl, e⟩
    · cases h
    · rcases (show s = 71 ∨ s = 72 ∨ s = 73 ∨ s = 74 ∨ s = 75 ∨ s = 76 ∨ s = 77 ∨ s = 78 ∨ s = 79 by omega) with rfl | rfl | rfl | rfl | rfl | rfl | rfl | rfl | rfl <;> cases h
theorem sc_Fb (t : Nat) : ∀ k i s, wX k i s = false → wFb t k i s = false := by
  intro k i s h
  cases e : wFb t k i s with
  | false => rfl
  | true =>
    simp [wFb, wBr, nb_d, nl_d] at e
    rcases (show k = 16 ∨ k = 17 ∨ (k = 0 ∧ s = 7) ∨ (k = 0 ∧ s = 8) by omega) with rfl | rfl | ⟨rfl, rfl⟩ | ⟨rfl, rfl⟩ <;> cases h
theorem sc_Bm : ∀ k i s, wX k i s = false → wBm k i s = false := by
  intro k i s h
  cases e : wBm k i s with
  | false => rfl
  | true =>
    simp [wBm, nb_d, nl_d] at e
    rcases (show k = 110 ∨ k = 111 ∨ (k = 12 ∧ s = 63) ∨ (k = 12 ∧ s = 86) by omega) with rfl | rfl | ⟨rfl, rfl⟩ | ⟨rfl, rfl⟩ <;> cases h
/-- the same, and what is kept of one wing -/
def wV (f k i s : Nat) : Bool := wX k i s || cSl f k i s
theorem wV_x {f : Nat} : ∀ k i s, wV f k i s = false → wX k i s = false := fun k i s h => (Bool.or_eq_false_iff.mp h).1
theorem sv_Fl (f : Nat) : ∀ k i s, wV f k i s = false → wFl f k i s = false := by
  intro k i s h
  have h := (Bool.or_eq_false_iff.mp h).2
  simp [cSl, wFl, nb_d, nl_d] at h ⊢
  omega
theorem sv_Kp (W : Nat) : ∀ k i s, wV (W + 2) k i s = false → wKp W k i s = false := by
  intro k i s h
  have h := (Bool.or_eq_false_iff.mp h).2
  simp [cSl, wKp, nb_d, nl_d] at h ⊢
  omega
/-- a wing solved anew, in both -/
theorem Inv.kept {M M' : Mem} {nt t w : Nat} {v : Int32} {g d b a : Nat → Int64} (h : Inv M) (hU : Un (wV (4 * t + w + 2)) M M') (hw : w < 4) (hn : wN (pg M t) w ≤ 10) (hg : GB (wN (pg M t) w) g) (hv : 1 ≤ v.toInt ∧ v.toInt ≤ 40) (hC : CS M' (4 * t + w + 2) (wN (pg M t) w) v g d b a) (hM : MS M' (4 * t + w) (wN (pg M t) w) v g d b a) : Inv M' := by
  obtain ⟨nt, o, a1, a2, a3, a4, a5, a6, a7, a8, a9, a10⟩ := h
  have hx : ∀ k i s, cAll k i s = true → cSl (4 * t + w + 2) k i s = false → wV (4 * t + w + 2) k i s = false := fun k i s h1 h2 => by unfold wV wX; rw [h1, h2]; rfl
  have htx : Av cTx (wV (4 * t + w + 2)) := fun k i s q => by
    have h1 : cAll k i s = true := by unfold cAll; rw [q]; rfl
    refine hx k i s h1 ?_
    cases e : cSl (4 * t + w + 2) k i s with
    | false => rfl
    | true =>
      have e2 : ((k = 2 ∨ k = 23 ∨ k = 24 ∨ k = 25 ∨ k = 26)) ∨ (k = 119 ∨ k = 120 ∨ k = 121 ∨ k = 122 ∨ k = 123 ∨ k = 124) := by
        simp [cSl, nb_d, nl_d] at e
        omega
      rcases e2 with (rfl | rfl | rfl | rfl | rfl) | rfl | rfl | rfl | rfl | rfl | rfl <;> cases q
  have ep : ∀ t', pg M' t' = pg M t' := fun t' => pg_av hU htx t'
  refine ⟨nt, o, a1.un hU rfl rfl, a2.un hU rfl rfl, ?_, a4.un hU rfl rfl (fun s => rfl) (fun s => rfl), a5.un hU (fun s => rfl) (fun s => rfl), fun t' ht => ?_, a7.un hU (fun s => rfl) (fun s => rfl) (fun s => rfl), a8.un hU (fun s => rfl) (fun s => rfl), a9.un hU rfl rfl (fun k s h => ?_), a10.un hU (fun s => rfl) (fun s => rfl) (fun s => rfl) (fun s => rfl) (fun s => rfl)⟩
  · rw [hU.I (k := 11) (i := 0) (s := 2) rfl, hU.I (k := 12) (i := 0) (s := 17) rfl]; exact a3
  · obtain ⟨⟨nl, nh, nw, nb, Ls, b1⟩, b2⟩ := a6 t' ht
    refine ⟨⟨nl, nh, nw, nb, Ls, b1.un hU htx⟩, fun w' hw' => ?_⟩
    by_cases e : t' = t ∧ w' = w
    · rw [e.1, e.2]
      refine Or.inr ⟨v, g, d, b, a, ?_⟩
      rw [ep]
      exact ⟨⟨hn, hg⟩, hv, hC, hM⟩
    · refine (b2 w' hw').un hU (fun k i s q => ?_) (ep t')
      refine hx k i s (cSl_all q) ?_
      cases e2 : cSl (4 * t + w + 2) k i s with
      | false => rfl
      | true =>
        simp [cSl, nb_d, nl_d] at q e2
        omega
  · rcases (show k = 30 ∨ k = 31 ∨ k = 32 ∨ k = 33 ∨ k = 34 ∨ k = 35 ∨ k = 134 ∨ k = 135 ∨ k = 136 ∨ k = 137 ∨ k = 138 ∨ k = 139 by omega) with rfl | rfl | rfl | rfl | rfl | rfl | rfl | rfl | rfl | rfl | rfl | rfl <;> rfl
