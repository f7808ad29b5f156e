/-! SOLVE, in both -/
/-- the class's own cells -/
def wC (k _i _s : Nat) : Bool := Nat.ble k 66 && !(Nat.beq k 12)
theorem wC_of {w : Nat → Nat → Nat → Bool} (h : ∀ k i s, w k i s = true → wC k i s = true) : ∀ k i s, wC k i s = false → w k i s = false := fun k i s q => by
  cases e : w k i s with
  | false => rfl
  | true => rw [h k i s e] at q; cases q
theorem mC_So : ∀ k i s, wSo k i s = true → wC k i s = true := fun k i s h => by simp [wSo, wC, nb_d, nl_d] at h ⊢; omega
theorem mC_Rd : ∀ k i s, wRd k i s = true → wC k i s = true := fun k i s h => by simp [wRd, wC, nb_d, nl_d] at h ⊢; omega
theorem mC_Fl (f : Nat) : ∀ k i s, wFl f k i s = true → wC k i s = true := fun k i s h => by simp [wFl, wC, nb_d, nl_d] at h ⊢; omega
theorem mC_Wa : ∀ k i s, wWa k i s = true → wC k i s = true := fun k i s h => by simp [wWa, wC, nb_d, nl_d] at h ⊢; omega
theorem mC_Fb (t : Nat) : ∀ k i s, wFb t k i s = true → wC k i s = true := fun k i s h => by simp [wFb, wBr, wC, nb_d, nl_d] at h ⊢; omega
def rnR (E : Ev) (g : Nat → Int64) : Int32 := (rnS E 120 1 g).1
def rnG (E : Ev) (g : Nat → Int64) : Nat → Int64 := (rnS E 120 1 g).2
def KpC (M : Mem) (f : Nat) (E : Ev) (g : Nat → Int64) : Prop := CS M f (eN E) (eV E) (rnG E g) (dnS E (rnG E g)) (bnS E (rnG E g)) (anS E (rnG E g))
def KpM (M : Mem) (W : Nat) (E : Ev) (g : Nat → Int64) : Prop := MS M W (eN E) (eV E) (rnG E g) (dnS E (rnG E g)) (bnS E (rnG E g)) (anS E (rnG E g))
theorem c_sak (Ω : Om) (M : Mem) (t : Nat) (E : Ev) (g : Nat → Int64) (K : Ka) (hE : CE M t E) (hO : EvOK E) (hg : GB (eN E) g) (hG : ∀ i, i < eN E → mJ M 23 0 i = g i)
    (hK : ∀ M', Un wC M M' → Un (wV (4 * t + eW E + 2)) M M' → (rnR E g = -2 → Un wX M M') → (¬ rnR E g = -2 → KpC M' (4 * t + eW E + 2) E g) → K (some (vI (rnR E g))) M') : CallS Ω true m_WH_settleAndKeep [vR (some (11, 0)), vR (some (10, 4 * t + eW E))] M K := by
  have hn3 : eN E ≤ 10 := hO.1.n.2.2.1
  refine call_go (hJL rfl) (Nat.le_of_ble_eq_true rfl) (go_wp ok_WH_settleAndKeep [] 250 _ _ _ _ _ _ ?_)
  conv => whnf
  refine ⟨fun r M' => r = some (vI (rnR E g)) ∧ Un wRd M M' ∧ (¬ rnR E g = -2 → CF M' (eN E) (rnG E g) (dnS E (rnG E g)) (bnS E (rnG E g)) (anS E (rnG E g))), c_settle Ω M t E g _ hE hO hg hG (fun M' a b => ⟨rfl, a, b⟩), trivial, ?_⟩
  rintro r M1 ⟨rfl, hU1, hF⟩
  have hX1 : Un wX M M1 := hU1.mono sc_Rd
  have hE1 := hE.un hU1
  conv => whnf
  refine And.intro (fun z => ?_) (fun z => ?_)
  · conv => whnf
    exact hK M1 (hU1.mono (wC_of mC_Rd)) (hX1.mono wV_x) (fun _ => hX1) (fun q => absurd z q)
  · conv => whnf
    refine ⟨fun r M' => r = none ∧ Un (wFl (4 * t + eW E + 2)) M1 M' ∧ KpC M' (4 * t + eW E + 2) E g, c_keep Ω M1 (4 * t + eW E + 2) 0 (by omega) _ (fun M' b1 b2 b3 b4 b5 => ⟨rfl, b1, b5, b3.trans hE1.2.2.2.1, b4.trans hE1.2.2.2.2.1, fun i hi => ?_⟩), trivial, ?_⟩
    · obtain ⟨c1, c2, c3, c4⟩ := b2 i (by omega)
      obtain ⟨d1, d2, d3, d4⟩ := hF z i hi
      exact ⟨c1.trans d1, c2.trans d2, c3.trans d3, c4.trans d4⟩
    · rintro r M2 ⟨rfl, hU2, hC⟩
      conv => whnf
      exact hK M2 ((hU1.mono (wC_of mC_Rd)).trans (hU2.mono (wC_of (mC_Fl _)))) ((hX1.mono wV_x).trans (hU2.mono (sv_Fl _))) (fun q => absurd q z) (fun _ => hC)
/-- the model's own cells -/
def wM (k _i _s : Nat) : Bool := Nat.beq k 12 || Nat.ble 67 k
theorem wM_of {w : Nat → Nat → Nat → Bool} (h : ∀ k i s, w k i s = true → wM k i s = true) : ∀ k i s, wM k i s = false → w k i s = false := fun k i s q => by
  cases e : w k i s with
  | false => rfl
  | true => rw [h k i s e] at q; cases q
theorem Un.and {w w' : Nat → Nat → Nat → Bool} {M M' : Mem} (h : Un w M M') (h' : Un w' M M') : Un (fun k i s => w k i s && w' k i s) M M' := fun k i s q => by
  rcases Bool.and_eq_false_iff.mp q with q | q
  · exact h k i s q
  · exact h' k i s q
theorem mM_Rm : ∀ k i s, wRm k i s = true → wM k i s = true := fun k i s h => by simp [wRm, wM, nb_d, nl_d] at h ⊢; omega
theorem mM_St : ∀ k i s, wSt k i s = true → wM k i s = true := fun k i s h => by simp [wSt, wM, nb_d, nl_d] at h ⊢; omega
theorem mM_Gm : ∀ k i s, wGm k i s = true → wM k i s = true := fun k i s h => by simp [wGm, wM, nb_d, nl_d] at h ⊢; omega
theorem mM_Kp (W : Nat) : ∀ k i s, wKp W k i s = true → wM k i s = true := fun k i s h => by simp [wKp, wM, nb_d, nl_d] at h ⊢; omega
/-- rounds, in the model, and what is kept -/
theorem c_rk (Ω : Om) (M : Mem) (p : Nat) (E : Ev) (g : Nat → Int64) (hE : ME M p E) (hO : EvOK E) (hG : ∀ i, i < eN E → mJ M 113 0 i = g i) (N : Option Vl → Mem → Prop)
    (hK : ∀ M', Un wM M M' → Un (wV (4 * p + eW E + 2)) M M' → (rnR E g = -2 → Un wX M M') → (¬ rnR E g = -2 → KpM M' (4 * p + eW E) E g) → N (some (vI (rnR E g))) M') :
    ∃ K0 : Ka, CallS Ω true m_MD_rounds [vR (some (12, 0))] M K0 ∧ True ∧ ∀ r M1, K0 r M1 → ∃ x, r = some (vI x) ∧ ∃ K1 : Ka, CallS Ω true m_MD_keeps [vR (some (12, 0)), vI x] M1 K1 ∧ True ∧ ∀ r2 M2, K1 r2 M2 → N r2 M2 := by
  have hn3 : eN E ≤ 10 := hO.1.n.2.2.1
  refine ⟨fun r M' => r = some (vI (rnR E g)) ∧ Un wRm M M' ∧ (¬ rnR E g = -2 → MF M' (eN E) (rnG E g) (dnS E (rnG E g)) (bnS E (rnG E g)) (anS E (rnG E g))), c_MD_rounds Ω M p E g _ hE hO hG (fun M' a b => ⟨rfl, a, b⟩), trivial, ?_⟩
  rintro r M1 ⟨rfl, hU1, hF⟩
  have hX1 : Un wX M M1 := hU1.mono sc_Rm
  obtain ⟨⟨hp, hw4, -⟩, b1, b2, b3, -⟩ := hE.un hU1
  refine ⟨_, rfl, ?_⟩
  by_cases z : rnR E g = -2
  · refine ⟨fun r2 M2 => r2 = some (vI (-2)) ∧ M2 = M1, by rw [z]; exact c_MD_keeps2 Ω M1 _ ⟨rfl, rfl⟩, trivial, ?_⟩
    rintro r2 M2 ⟨rfl, rfl⟩
    have := hK M2 (hU1.mono (wM_of mM_Rm)) (hX1.mono wV_x) (fun _ => hX1) (fun q => absurd z q)
    rw [z] at this
    exact this
  · refine ⟨fun r2 M2 => r2 = some (vI (rnR E g)) ∧ Un (wKp (4 * p + eW E)) M1 M2 ∧ KpM M2 (4 * p + eW E) E g, c_MD_keeps Ω M1 (4 * p + eW E) (eN E) (rnR E g) (eV E) _ _ _ _ _ z (by omega) hn3 b1 b2 b3 (hF z) (fun M' a b => ⟨rfl, a, b⟩), trivial, ?_⟩
    rintro r2 M2 ⟨rfl, hU2, hM⟩
    exact hK M2 ((hU1.mono (wM_of mM_Rm)).trans (hU2.mono (wM_of (mM_Kp _)))) ((hX1.mono wV_x).trans (hU2.mono (sv_Kp _))) (fun q => absurd q z) (fun _ => hM)
theorem KpC.un {w : Nat → Nat → Nat → Bool} {M M' : Mem} {f : Nat} {E : Ev} {g : Nat → Int64} (h : KpC M f E g) (hU : Un w M M') (hw : ∀ k s, k = 2 ∨ (23 ≤ k ∧ k ≤ 26) → w k f s = false) : KpC M' f E g := by
  obtain ⟨a, b, c, d⟩ := h
  refine ⟨(hU.I (hw _ _ (by omega))).trans a, (hU.I (hw _ _ (by omega))).trans b, (hU.I (hw _ _ (by omega))).trans c, fun i hi => ?_⟩
  obtain ⟨z1, z2, z3, z4⟩ := d i hi
  exact ⟨(hU.J (hw _ _ (by omega))).trans z1, (hU.J (hw _ _ (by omega))).trans z2, (hU.J (hw _ _ (by omega))).trans z3, (hU.J (hw _ _ (by omega))).trans z4⟩
/-- what the two have kept, put together -/
theorem both_kept {M M1 M2 : Mem} {t : Nat} {E : Ev} {g : Nat → Int64} (h : Inv M) (hT : eT E = pg M t) (hO : EvOK E) (hw : eW E < 4) (hv : 1 ≤ (eV E).toInt ∧ (eV E).toInt ≤ 40) (hg : GB (eN E) g)
    (hU1 : Un (wV (4 * t + eW E + 2)) M M1) (x1 : rnR E g = -2 → Un wX M M1) (k1 : ¬ rnR E g = -2 → KpC M1 (4 * t + eW E + 2) E g)
    (hU2 : Un (wV (4 * t + eW E + 2)) M1 M2) (hUm : Un wM M1 M2) (x2 : rnR E g = -2 → Un wX M1 M2) (k2 : ¬ rnR E g = -2 → KpM M2 (4 * t + eW E) E g) : Inv M2 := by
  have en : eN E = wN (pg M t) (eW E) := by show wN (eT E) (eW E) = _; rw [hT]
  by_cases z : rnR E g = -2
  · exact h.all ((x1 z).trans (x2 z)) wX_av
  · have k1 := (k1 z).un hUm (fun k s hk => by simp [wM, nb_d, nl_d]; omega)
    refine h.kept (nt := 0) (hU1.trans hU2) hw ?_ ?_ hv (g := rnG E g) (d := dnS E (rnG E g)) (b := bnS E (rnG E g)) (a := anS E (rnG E g)) ?_ ?_
    · rw [← en]; exact hO.1.n.2.2.1
    · rw [← en]; exact rn_bd hO.1 120 1 g hg
    · rw [← en]; exact k1
    · rw [← en]; exact k2 z
