/-! A WING AS IT WAS LAST SOLVED, in both -/
def SvY (M : Mem) (o : Option Nat) (x : Int32) (t w : Nat) (v : Int32) (g d b a : Nat → Int64) : Prop := RwY M o x t w ∧ CS M (4 * t + w + 2) (wN (pg M t) w) v g d b a ∧ MS M (4 * t + w) (wN (pg M t) w) v g d b a
def SvN (M : Mem) (o : Option Nat) (x : Int32) : Prop := RwN M o x ∨ ∃ t w, RwY M o x t w ∧ mI M 2 (4 * t + w + 2) 6 = 0 ∧ mI M 119 0 (4 * t + w) = 0
theorem sv_res {M : Mem} {nt : Nat} {o : Option Nat} (h : HdC M nt o) (hT : Txt M nt) (x : Int32) : SvN M o x ∨ ∃ t w v g d b a, SvY M o x t w v g d b a := by
  rcases rw_res h hT x with hN | ⟨t, w, hY⟩
  · exact Or.inl (Or.inl hN)
  · rcases (hT t (h.2.2.2 t hY.1)).2 w hY.w4 with ⟨a, b, -⟩ | ⟨v, g, d, b, a, -, -, hC, hM⟩
    · exact Or.inl (Or.inr ⟨t, w, hY, a, b⟩)
    · exact Or.inr ⟨t, w, v, g, d, b, a, hY, hC, hM⟩
theorem c_solvedY (Ω : Om) (M : Mem) (nt t w : Nat) (o : Option Nat) (x v : Int32) (g d b a : Nat → Int64) (K : Ka) (h1 : HdC M nt o) (hY : SvY M o x t w v g d b a) (h : K (some (vR (some (10, 4 * t + w)))) M) : CallS Ω true m_WH_solvedWing [vR (some (11, 0)), vI x] M K := by
  obtain rfl := hY.1.1
  refine call_go (hJL rfl) (Nat.le_of_ble_eq_true rfl) (go_wp ok_WH_solvedWing [] 250 _ _ _ _ _ _ ?_)
  conv => whnf
  rw [h1.2.2.1]
  refine cl_use (fun K h => c_textOfH Ω M nt (some t) K h1 h) trivial ?_
  conv => whnf
  refine cl_use (fun K h => c_wingOfY Ω M t w (some t) x K hY.1 h) trivial ?_
  conv => whnf
  rw [hY.2.1.1]
  exact And.intro (fun e => absurd e (by decide)) (fun _ => h)
theorem c_solvedN (Ω : Om) (M : Mem) (nt : Nat) (o : Option Nat) (x : Int32) (K : Ka) (h1 : HdC M nt o) (hN : SvN M o x) (h : K (some (vR none)) M) : CallS Ω true m_WH_solvedWing [vR (some (11, 0)), vI x] M K := by
  refine call_go (hJL rfl) (Nat.le_of_ble_eq_true rfl) (go_wp ok_WH_solvedWing [] 250 _ _ _ _ _ _ ?_)
  conv => whnf
  rw [h1.2.2.1]
  refine cl_use (fun K h => c_textOfH Ω M nt o K h1 h) trivial ?_
  conv => whnf
  rcases hN with hN | ⟨t, w, hY, e6, -⟩
  · refine cl_use (fun K h => c_wingOfN' Ω M o x K hN h) trivial ?_
    exact h
  · obtain rfl := hY.1
    refine cl_use (fun K h => c_wingOfY Ω M t w (some t) x K hY h) trivial ?_
    conv => whnf
    rw [e6]
    exact And.intro (fun _ => h) (fun e => absurd rfl e)
set_option maxRecDepth 8000 in
theorem c_againN (Ω : Om) (M : Mem) (nt : Nat) (o : Option Nat) (x : Int32) (K : Ka) (h1 : HdM M nt o) (hN : SvN M o x) (h : K (some (vI 0)) M) : CallS Ω true m_MD_again [vR (some (12, 0)), vI x] M K := by
  refine call_go (hJL rfl) (Nat.le_of_ble_eq_true rfl) (go_wp ok_MD_again [] 250 _ _ _ _ _ _ ?_)
  conv => whnf
  rcases hN with hN | ⟨t, w, hY, -, e119⟩
  · refine cl_use (fun K h => c_MD_rowN' Ω M nt o x K h1 hN h) trivial ?_
    exact And.intro (fun _ => ⟨Or.inl rfl, h⟩) (fun a => absurd rfl a)
  · have ht : t < nt := h1.2.2.2 t hY.1
    have hnt := h1.1
    have hw4 := hY.w4
    refine cl_use (fun K h => c_MD_rowY Ω M nt t w o x K h1 hY h) trivial ?_
    refine And.intro (fun a => absurd a (nI_nm1 (by omega))) (fun _ => ?_)
    conv => whnf
    refine And.intro (vp_in_nI (by omega) (by decide)) ?_
    rw [nI_clamp (by omega), e119]
    exact And.intro (fun a => absurd rfl a) (fun _ => ⟨Or.inl rfl, h⟩)
set_option maxRecDepth 8000 in
theorem c_againY (Ω : Om) (M : Mem) (nt t w : Nat) (o : Option Nat) (x v : Int32) (g d b a : Nat → Int64) (K : Ka) (h1 : HdM M nt o) (hY : SvY M o x t w v g d b a)
    (hK : ∀ M', Un wM M M' → Un wX M M' → MF M' (wN (pg M t) w) g d b a → mI M' 12 0 71 = nI (4 * t + w) → mI M' 12 0 72 = nI (wN (pg M t) w) → mI M' 12 0 73 = v → (∀ i, i < wN (pg M t) w → mI M' 118 0 i = pg M t 95 (10 * w + i)) → K (some (vI 1)) M') : CallS Ω true m_MD_again [vR (some (12, 0)), vI x] M K := by
  obtain ⟨hY, hC, hM⟩ := hY
  have ht : t < nt := h1.2.2.2 t hY.1
  have hnt := h1.1
  have hw4 := hY.w4
  obtain ⟨hW, -⟩ := hY.ok
  have hn3 := hW.n.2.2.1
  refine call_go (hJL rfl) (Nat.le_of_ble_eq_true rfl) (go_wp ok_MD_again [38] 250 _ _ _ _ _ _ ?_)
  conv => whnf
  refine cl_use (fun K h => c_MD_rowY Ω M nt t w o x K h1 hY h) trivial ?_
  refine And.intro (fun a => absurd a (nI_nm1 (by omega))) (fun _ => ?_)
  conv => whnf
  refine And.intro (vp_in_nI (by omega) (by decide)) ?_
  rw [nI_clamp (by omega), hM.1]
  refine And.intro (fun _ => ?_) (fun a => absurd a (by decide))
  conv => whnf
  refine And.intro (vp_in_nI (by omega) (by decide)) ?_
  rw [nI_clamp (by omega), hM.2.1]
  refine ⟨fun r M' => r = none ∧ Un wSt M M' ∧ (mI M' 12 0 71 = nI (4 * t + w) ∧ mI M' 12 0 72 = nI (wN (pg M t) w) ∧ mI M' 12 0 73 = v) ∧ ∀ i, i < wN (pg M t) w → mI M' 118 0 i = pg M t 95 (10 * w + i), c_MD_stands Ω M t w v 0 1 1 _ (by omega) hw4 hW (Or.inr rfl) (Or.inr rfl) (fun M' p1 p2 p3 _ _ _ _ _ => ⟨rfl, p1, ⟨p2.2.1, p2.2.2.1, p2.2.2.2.1⟩, p3⟩), trivial, ?_⟩
  rintro r M1 ⟨rfl, hU1, ⟨e71, e72, e73⟩, h118⟩
  conv => whnf
  refine loopN (wN (pg M t) w) (fun i M2 => Un wRm M1 M2 ∧ ∀ i', i' < i → mJ M2 113 0 i' = g i' ∧ mJ M2 115 0 i' = d i' ∧ mJ M2 116 0 i' = b i' ∧ mJ M2 117 0 i' = a i') (fun i M2 => GoS Ω true m_MD_again K 38 [some (vR (some (12, 0))), some (vI x), some (vI (nI (4 * t + w))), some (vI (nI i))] [] M2 0 0) ?_ ?_ 0 M1 (Nat.zero_le _) ⟨Un.rfl, fun i h => absurd h (Nat.not_lt_zero _)⟩
  · rintro i M2 hi ⟨hU, hA⟩ hN
    obtain ⟨m1, m2, m3, m4⟩ := hM.2.2 i hi
    refine go_wp ok_MD_again [38] 250 _ _ _ _ _ _ ?_
    refine And.intro (fun a => ?_) (fun _ => ?_)
    · rw [(hU.I rfl).trans e72, nI_leI (by omega) (by omega)] at a; omega
    conv => whnf
    rw [show (10 : Int32) = nI 10 from rfl, pk_mul, nI_add]
    refine And.intro (vp_in_nI (by omega) (by decide)) ?_
    conv => whnf
    refine And.intro (vp_in_nI (by omega) (by decide)) ?_
    rw [nI_clamp (by omega), nI_clamp (by omega), ((hU.J (k := 121) rfl).trans (hU1.J (k := 121) rfl)).trans m1]
    conv => whnf
    rw [show (10 : Int32) = nI 10 from rfl, pk_mul, nI_add]
    refine And.intro (vp_in_nI (by omega) (by decide)) ?_
    conv => whnf
    refine And.intro (vp_in_nI (by omega) (by decide)) ?_
    rw [nI_clamp (by omega), nI_clamp (by omega), show mJ (sJ M2 113 0 i (g i)) 122 0 (10 * (4 * t + w) + i) = d i from ((hU.J (k := 122) rfl).trans (hU1.J (k := 122) rfl)).trans m2]
    conv => whnf
    rw [show (10 : Int32) = nI 10 from rfl, pk_mul, nI_add]
    refine And.intro (vp_in_nI (by omega) (by decide)) ?_
    conv => whnf
    refine And.intro (vp_in_nI (by omega) (by decide)) ?_
    rw [nI_clamp (by omega), nI_clamp (by omega), show mJ (sJ (sJ M2 113 0 i (g i)) 115 0 i (d i)) 123 0 (10 * (4 * t + w) + i) = b i from ((hU.J (k := 123) rfl).trans (hU1.J (k := 123) rfl)).trans m3]
    conv => whnf
    rw [show (10 : Int32) = nI 10 from rfl, pk_mul, nI_add]
    refine And.intro (vp_in_nI (by omega) (by decide)) ?_
    conv => whnf
    refine And.intro (vp_in_nI (by omega) (by decide)) ?_
    rw [nI_clamp (by omega), nI_clamp (by omega), show mJ (sJ (sJ (sJ M2 113 0 i (g i)) 115 0 i (d i)) 116 0 i (b i)) 124 0 (10 * (4 * t + w) + i) = a i from ((hU.J (k := 124) rfl).trans (hU1.J (k := 124) rfl)).trans m4]
    have := hN (sJ (sJ (sJ (sJ M2 113 0 i (g i)) 115 0 i (d i)) 116 0 i (b i)) 117 0 i (a i)) ⟨(((hU.pJ rfl).pJ rfl).pJ rfl).pJ rfl, fun i' hi' => ?_⟩
    · rw [← nI_1] at this
      exact this
    · have hot : ∀ (k k' : Nat) (N : Mem) (y : Int64) (s j : Nat), k' ≠ k → mJ (sJ N k 0 s y) k' 0 j = mJ N k' 0 j := fun k k' N y s j hk => by rw [mJ_sJ, if_neg (fun q => hk q.1)]
      have hif : ∀ (k : Nat) (N : Mem) (y : Int64), mJ (sJ N k 0 i y) k 0 i' = if i' = i then y else mJ N k 0 i' := fun k N y => by
        rw [mJ_sJ]
        by_cases e : i' = i
        · rw [if_pos ⟨rfl, rfl, e⟩, if_pos e]
        · rw [if_neg (fun q => e q.2.2), if_neg e]
      rw [hot 117 113 _ _ _ _ (by decide), hot 116 113 _ _ _ _ (by decide), hot 115 113 _ _ _ _ (by decide), hif, hot 117 115 _ _ _ _ (by decide), hot 116 115 _ _ _ _ (by decide), hif, hot 113 115 _ _ _ _ (by decide), hot 117 116 _ _ _ _ (by decide), hif, hot 115 116 _ _ _ _ (by decide), hot 113 116 _ _ _ _ (by decide), hif, hot 116 117 _ _ _ _ (by decide), hot 115 117 _ _ _ _ (by decide), hot 113 117 _ _ _ _ (by decide)]
      by_cases e : i' = i
      · rw [if_pos e, if_pos e, if_pos e, if_pos e, e]; exact ⟨rfl, rfl, rfl, rfl⟩
      · rw [if_neg e, if_neg e, if_neg e, if_neg e]; exact hA i' (by omega)
  · rintro M2 ⟨hU, hA⟩
    refine go_wp ok_MD_again [] 250 _ _ _ _ _ _ ?_
    refine And.intro (fun _ => ?_) (fun a => ?_)
    · exact ⟨Or.inr rfl, hK M2 ((hU1.mono (wM_of mM_St)).trans (hU.mono (wM_of mM_Rm))) ((hU1.mono sc_St).trans (hU.mono sc_Rm)) hA ((hU.I rfl).trans e71) ((hU.I rfl).trans e72) ((hU.I rfl).trans e73) (fun i hi => (hU.I rfl).trans (h118 i hi))⟩
    · rw [(hU.I rfl).trans e72, nI_leI (by omega) (by omega)] at a; omega
