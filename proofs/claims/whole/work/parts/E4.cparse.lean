/-! READ: the class's reader: a text cleared, and parsed -/
def wTx (t k i s : Nat) : Bool := (Nat.beq i t && (Nat.beq k 0 || (Nat.beq k 7 || ((Nat.ble 13 k && Nat.ble k 15) || (Nat.beq k 43 || (Nat.beq k 44 || (Nat.ble 46 k && Nat.ble k 48))))))) || (((Nat.beq k 3 || (Nat.beq k 27 || Nat.beq k 28)) && Nat.beq (i / 8) t) || (((Nat.beq k 10 || (Nat.ble 57 k && Nat.ble k 62)) && Nat.beq (i / 4) t) || (((Nat.beq k 2 || (Nat.ble 23 k && Nat.ble k 26)) && (Nat.ble 2 i && Nat.beq ((i - 2) / 4) t)) || (Nat.beq k 4 || (Nat.beq k 29 || (Nat.beq k 8 || (Nat.ble 50 k && Nat.ble k 52)))))))
theorem mono_of {w w' : Nat → Nat → Nat → Bool} (h : ∀ k i s, w k i s = true → w' k i s = true) : ∀ k i s, w' k i s = false → w k i s = false := fun k i s q => by
  cases e : w k i s with
  | false => rfl
  | true => rw [h k i s e] at q; cases q
theorem tx_lw {t j : Nat} (hj : j < 8) : ∀ k i s, wTx t k i s = false → wLw t (8 * t + j) k i s = false := mono_of (fun k i s h => by
  simp [wLw, wPt, wRe, wPb, wNb, wTx, nb_d, nl_d] at h ⊢
  omega)
theorem tx_hi {t j : Nat} : ∀ k i s, wTx t k i s = false → wHi t j k i s = false := mono_of (fun k i s h => by
  simp [wHi, wHb, wNa, wRe, wNb, wTx, nb_d, nl_d] at h ⊢
  omega)
theorem tx_wi {t j : Nat} (hj : j < 4) : ∀ k i s, wTx t k i s = false → wWi t (4 * t + j) k i s = false := mono_of (fun k i s h => by
  simp [wWi, wWb, wSq, wSb, wMa, wRe, wNb, wTx, nb_d, nl_d] at h ⊢
  omega)
theorem tx_ba {t : Nat} : ∀ k i s, wTx t k i s = false → wBa t k i s = false := mono_of (fun k i s h => by
  simp [wBa, wEx, wUn, wSp, wPn, wCb, wRe, wNb, wTx, nb_d, nl_d] at h ⊢
  omega)
theorem tx_re {t : Nat} : ∀ k i s, wTx t k i s = false → wRe k i s = false := mono_of (fun k i s h => by
  simp [wRe, wTx, nb_d, nl_d] at h ⊢
  omega)
theorem tx_ta {t : Nat} : ∀ k i s, wTx t k i s = false → wTa k i s = false := mono_of (fun k i s h => by
  simp [wTa, wTx, nb_d, nl_d] at h ⊢
  omega)
def wUt (q k i s : Nat) : Bool := (Nat.beq k 10 && Nat.beq i q) || wFl (q + 2) k i s
theorem c_untell (Ω : Om) (M : Mem) (q : Nat) (K : Ka) (hK : ∀ M', Un (wUt q) M M' → WgD M' q → mI M' 2 (q + 2) 6 = 0 → (∀ i, i < 10 → mJ M' 23 (q + 2) i = 0) → K none M') : CallS Ω true m_Wing_untell [vR (some (10, q))] M K := by
  refine call_go (hJL rfl) (Nat.le_of_ble_eq_true rfl) (go_wp ok_Wing_untell [] 250 _ _ _ _ _ _ ?_)
  conv => whnf
  refine And.intro (Or.inl rfl) ?_
  conv => whnf
  generalize hM1 : sI (sI (sI (sI (sI M 10 q 0 0) 10 q 6 200) 10 q 7 0) 10 q 8 0) 10 q 10 0 = M1
  have U1 : Un (wUt q) M M1 := by
    rw [← hM1]
    exact ((((Un.rfl.pI (by simp [wUt, nb_d])).pI (by simp [wUt, nb_d])).pI (by simp [wUt, nb_d])).pI (by simp [wUt, nb_d])).pI (by simp [wUt, nb_d])
  have D1 : WgD M1 q := by
    rw [← hM1]
    refine ⟨?_, ?_, ?_, ?_, mI_eq⟩
    · rw [mI_st rfl, mI_st rfl, mI_st rfl, mI_st rfl, mI_eq]
    · rw [mI_st rfl, mI_st rfl, mI_st rfl, mI_eq]
    · rw [mI_st rfl, mI_st rfl, mI_eq]
    · rw [mI_st rfl, mI_eq]
  clear hM1
  refine ⟨fun r M' => r = none ∧ Un (wFl (q + 2)) M1 M' ∧ (∀ i, i < 10 → mJ M' 23 (q + 2) i = 0) ∧ mI M' 2 (q + 2) 6 = 0, c_rest Ω M1 (q + 2) 0 0 _ (fun M' a b _ _ e => ⟨rfl, a, b, e⟩), trivial, ?_⟩
  rintro r M2 ⟨rfl, U2, z1, z2⟩
  conv => whnf
  exact hK M2 (U1.trans (U2.mono (fun k i s h => (Bool.or_eq_false_iff.mp h).2))) (D1.un U2 (fun s => by simp [wFl, nb_d, nl_d])) z2 z1
/-- a text of which nothing is told yet, in the class -/
def ClrC (M : Mem) (t : Nat) : Prop := (∀ k, k < 8 → mI M 3 (8 * t + k) 2 = 0) ∧ (∀ w, w < 4 → WgD M (4 * t + w)) ∧ (mI M 0 t 2 = 0 ∧ mI M 0 t 4 = 0) ∧ mI M 7 t 1 = 0 ∧ mI M 7 t 4 = 0 ∧ mI M 7 t 6 = 0 ∧ mI M 7 t 11 = 0
/-- its wings were never solved, its hinges stand at 0 -/
def ClrF (M : Mem) (t : Nat) : Prop := (∀ w, w < 4 → mI M 2 (4 * t + w + 2) 6 = 0 ∧ ∀ i, i < 10 → mJ M 23 (4 * t + w + 2) i = 0) ∧ ∀ h, h < 4 → mI M 44 t h = 0
theorem c_empty (Ω : Om) (M : Mem) (t : Nat) (K : Ka) (h : K none (sI (sI M 0 t 2 0) 0 t 4 0)) : CallS Ω true m_Bars_empty [vR (some (0, t))] M K := by
  refine call_go (hJL rfl) (Nat.le_of_ble_eq_true rfl) (go_wp ok_Bars_empty [] 250 _ _ _ _ _ _ ?_)
  conv => whnf
  exact h
set_option maxHeartbeats 2000000 in
theorem c_clear (Ω : Om) (M : Mem) (t : Nat) (K : Ka) (hK : ∀ M', Un (wTx t) M M' → ClrC M' t → ClrF M' t → (∀ s, mI M' 4 0 s = mI M 4 0 s) → Un (fun k _ _ => Nat.beq k 3 || (Nat.beq k 10 || (Nat.beq k 2 || ((Nat.ble 23 k && Nat.ble k 26) || (Nat.beq k 44 || (Nat.beq k 0 || Nat.beq k 7)))))) M M' → K none M') : CallS Ω true m_Text_clear [vR (some (7, t))] M K := by
  refine call_go (hJL rfl) (Nat.le_of_ble_eq_true rfl) (go_wp ok_Text_clear [2] 250 _ _ _ _ _ _ ?_)
  conv => whnf
  refine loopN 8 (fun k M1 => (Un (wTx t) M M1 ∧ Un (fun k _ _ => Nat.beq k 3 || (Nat.beq k 10 || (Nat.beq k 2 || ((Nat.ble 23 k && Nat.ble k 26) || (Nat.beq k 44 || (Nat.beq k 0 || Nat.beq k 7)))))) M M1) ∧ ∀ k', k' < k → mI M1 3 (8 * t + k') 2 = 0) (fun k M1 => GoS Ω true m_Text_clear K 2 [some (vR (some (7, t))), some (vI (nI k))] [] M1 0 0) ?_ ?_ 0 M (Nat.zero_le _) ⟨⟨Un.rfl, Un.rfl⟩, fun k' h => absurd h (Nat.not_lt_zero _)⟩
  · rintro k M1 hk ⟨⟨hU, hV⟩, hA⟩ hN
    refine go_wp ok_Text_clear [2] 250 _ _ _ _ _ _ ?_
    refine And.intro (fun z => absurd z (nI_ge (b := 8) hk (by decide))) (fun _ => ?_)
    conv => whnf
    refine And.intro (vp_in_nI (by omega) (by decide)) ?_
    rw [nI_clamp (by omega), rr_law hk]
    conv => whnf
    rw [nI_1]
    refine hN (sI M1 3 (8 * t + k) 2 0) ⟨⟨hU.pI (by simp [wTx, nb_d, nl_d]; omega), hV.pI rfl⟩, fun k' hk' => ?_⟩
    by_cases e : k' = k
    · rw [e, mI_eq]
    · rw [mI_sI, if_neg (fun q => by omega)]; exact hA k' (by omega)
  rintro M1 ⟨⟨hU1, hV1⟩, hA1⟩
  refine go_wp ok_Text_clear [26] 250 _ _ _ _ _ _ ?_
  refine And.intro (fun _ => ?_) (fun z => absurd (Int32.le_refl _) z)
  conv => whnf
  refine loopN 4 (fun w M2 => (Un (wTx t) M M2 ∧ Un (fun k _ _ => Nat.beq k 3 || (Nat.beq k 10 || (Nat.beq k 2 || ((Nat.ble 23 k && Nat.ble k 26) || (Nat.beq k 44 || (Nat.beq k 0 || Nat.beq k 7)))))) M M2) ∧ (∀ k, k < 8 → mI M2 3 (8 * t + k) 2 = 0) ∧ ∀ w', w' < w → WgD M2 (4 * t + w') ∧ mI M2 2 (4 * t + w' + 2) 6 = 0 ∧ ∀ i, i < 10 → mJ M2 23 (4 * t + w' + 2) i = 0) (fun w M2 => GoS Ω true m_Text_clear K 26 [some (vR (some (7, t))), some (vI (nI w))] [] M2 0 0) ?_ ?_ 0 M1 (Nat.zero_le _) ⟨⟨hU1, hV1⟩, hA1, fun k' h => absurd h (Nat.not_lt_zero _)⟩
  · rintro w M2 hw ⟨⟨hU, hV⟩, hA, hW⟩ hN
    refine go_wp ok_Text_clear [26] 250 _ _ _ _ _ _ ?_
    refine And.intro (fun z => absurd z (nI_ge (b := 4) hw (by decide))) (fun _ => ?_)
    conv => whnf
    refine And.intro (vp_in_nI (by omega) (by decide)) ?_
    rw [nI_clamp (by omega), rr_wing hw]
    refine ⟨fun r M' => r = none ∧ Un (wUt (4 * t + w)) M2 M' ∧ WgD M' (4 * t + w) ∧ mI M' 2 (4 * t + w + 2) 6 = 0 ∧ (∀ i, i < 10 → mJ M' 23 (4 * t + w + 2) i = 0), c_untell Ω M2 (4 * t + w) _ (fun M' a b c d => ⟨rfl, a, b, c, d⟩), trivial, ?_⟩
    rintro r M3 ⟨rfl, U3, D3, z3, y3⟩
    conv => whnf
    rw [nI_1]
    refine hN M3 ⟨⟨hU.trans (U3.mono (mono_of (fun k i s h => by simp [wUt, wFl, wTx, nb_d, nl_d] at h ⊢; omega))), hV.trans (U3.mono (mono_of (fun k i s h => by simp [wUt, wFl, nb_d, nl_d] at h ⊢; omega)))⟩, fun k hk => (U3.I (by simp [wUt, wFl, nb_d, nl_d])).trans (hA k hk), fun w' hw' => ?_⟩
    by_cases e : w' = w
    · rw [e]; exact ⟨D3, z3, y3⟩
    · obtain ⟨a, b, c⟩ := hW w' (by omega)
      exact ⟨a.un U3 (fun s => by simp [wUt, wFl, nb_d, nl_d]; omega), (U3.I (by simp [wUt, wFl, nb_d, nl_d]; omega)).trans b, fun i hi => (U3.J (by simp [wUt, wFl, nb_d, nl_d]; omega)).trans (c i hi)⟩
  rintro M2 ⟨⟨hU2, hV2⟩, hA2, hW2⟩
  refine go_wp ok_Text_clear [] 250 _ _ _ _ _ _ ?_
  refine And.intro (fun _ => ?_) (fun z => absurd (Int32.le_refl _) z)
  conv => whnf
  refine cl_use (fun K h => c_fillI Ω true M2 44 t 4 0 K rfl (by decide) (by decide) h) trivial ?_
  conv => whnf
  refine cl_use (fun K h => c_empty Ω _ t K h) trivial ?_
  conv => whnf
  have Uw : ∀ w : Nat → Nat → Nat → Bool, (∀ s, w 44 t s = true) → (∀ s, w 0 t s = true) → (∀ s, w 7 t s = true) → Un w M M2 → Un w M (sI (sI (sI (sI (sI (sI (sFillI M2 44 t 4 0) 0 t 2 0) 0 t 4 0) 7 t 1 0) 7 t 4 0) 7 t 6 0) 7 t 11 0) := fun w h1 h2 h3 h => ((((((h.fI h1).pI (h2 _)).pI (h2 _)).pI (h3 _)).pI (h3 _)).pI (h3 _)).pI (h3 _)
  have r1 : ∀ k i s, ¬ k = 7 → ¬ k = 0 → ¬ k = 44 → mI (sI (sI (sI (sI (sI (sI (sFillI M2 44 t 4 0) 0 t 2 0) 0 t 4 0) 7 t 1 0) 7 t 4 0) 7 t 6 0) 7 t 11 0) k i s = mI M2 k i s := fun k i s h1 h2 h3 => by
    rw [mI_sI, if_neg (fun q => h1 q.1), mI_sI, if_neg (fun q => h1 q.1), mI_sI, if_neg (fun q => h1 q.1), mI_sI, if_neg (fun q => h1 q.1), mI_sI, if_neg (fun q => h2 q.1), mI_sI, if_neg (fun q => h2 q.1), mI_fillI, if_neg (fun q => h3 q.1)]
  refine hK _ (Uw _ (fun s => by simp [wTx, nb_d]) (fun s => by simp [wTx, nb_d]) (fun s => by simp [wTx, nb_d]) hU2) ⟨fun k hk => ?_, fun w hw => ?_, ⟨?_, ?_⟩, ?_, ?_, ?_, ?_⟩ ⟨fun w hw => ⟨?_, fun i hi => ?_⟩, fun h hh => ?_⟩ (fun s => ?_) (Uw _ (fun s => rfl) (fun s => rfl) (fun s => rfl) hV2)
  · rw [r1 _ _ _ (by decide) (by decide) (by decide)]; exact hA2 k hk
  · obtain ⟨a1, a2, a3, a4, a5⟩ := (hW2 w hw).1
    exact ⟨(r1 _ _ _ (by decide) (by decide) (by decide)).trans a1, (r1 _ _ _ (by decide) (by decide) (by decide)).trans a2, (r1 _ _ _ (by decide) (by decide) (by decide)).trans a3, (r1 _ _ _ (by decide) (by decide) (by decide)).trans a4, (r1 _ _ _ (by decide) (by decide) (by decide)).trans a5⟩
  · rw [mI_ne rfl, mI_ne rfl, mI_ne rfl, mI_ne rfl, mI_st rfl, mI_eq]
  · rw [mI_ne rfl, mI_ne rfl, mI_ne rfl, mI_ne rfl, mI_eq]
  · rw [mI_st rfl, mI_st rfl, mI_st rfl, mI_eq]
  · rw [mI_st rfl, mI_st rfl, mI_eq]
  · rw [mI_st rfl, mI_eq]
  · rw [mI_eq]
  · rw [r1 _ _ _ (by decide) (by decide) (by decide)]; exact (hW2 w hw).2.1
  · exact (hW2 w hw).2.2 i hi
  · rw [mI_ne rfl, mI_ne rfl, mI_ne rfl, mI_ne rfl, mI_ne rfl, mI_ne rfl, mI_fillI, if_pos ⟨rfl, rfl, hh⟩]
  · rw [r1 _ _ _ (by decide) (by decide) (by decide)]
    exact hV2.I rfl
theorem c_fromOf (Ω : Om) (M : Mem) (B : Nat → Nat) (n i : Nat) (K : Ka) (hT : TkC M B n) (hi : rch B n i) (h : K (some (vI (nI (psS B n i)))) M) : CallS Ω true m_Tokens_fromOf [vR (some (8, 0)), vI (nI i)] M K := by
  obtain ⟨⟨c, c1, c2, c3⟩, -, e51, -⟩ := hT i hi
  have h5 := hi.1
  refine call_go (hJL rfl) (Nat.le_of_ble_eq_true rfl) (go_wp ok_Tokens_fromOf [] 250 _ _ _ _ _ _ ?_)
  refine And.intro (fun a => absurd a (nI_pos (by omega))) (fun _ => And.intro (fun a => ?_) (fun _ => And.intro (fun a => absurd a (nI_nlt (a := 500) (by omega) (by decide))) (fun _ => ?_)))
  · rw [c3, nI_leI (by omega) (by omega)] at a; omega
  · conv => whnf
    refine And.intro (vp_in_nI (by omega) (by decide)) ?_
    rw [nI_clamp (by omega), e51]
    exact h
/-- the answer of read(), and the place of its fault -/
def rdA (e : Except Fa Ps) : Nat := match e with
  | .error f => f.1
  | .ok s => match s.2.2 with
    | none => 0
    | some q => q.1
def rdP (B : Nat → Nat) (n : Nat) (e : Except Fa Ps) : Int32 := match e with
  | .error f => nI (psS B n f.2)
  | .ok s => match s.2.2 with
    | none => -1
    | some q => nI (psS B n q.2)
theorem c_placeOf (Ω : Om) (M : Mem) (B : Nat → Nat) (n : Nat) (e : Except Fa Ps) (K : Ka) (h : PsC M B n e) (hK : K (some (vI (rdP B n e))) M) : CallS Ω true m_Reader_placeOfFault [vR (some (4, 0))] M K := by
  refine call_go (hJL rfl) (Nat.le_of_ble_eq_true rfl) (go_wp ok_Reader_placeOfFault [] 250 _ _ _ _ _ _ ?_)
  have htk := h.1.2
  cases e with
  | error f =>
    have e5 := h.2.2.2
    have hr := h.2.1.2
    rcases rd_fault h with ⟨fa, e1, e2⟩ | ⟨s, e1, _⟩
    · refine And.intro (fun _ => ?_) (fun z => absurd z e2)
      conv => whnf
      refine And.intro (fun z => absurd z e2) (fun _ => ?_)
      conv => whnf
      rw [e5]
      refine cl_use (fun K h => c_fromOf Ω M B n f.2 K htk hr h) trivial ?_
      conv => whnf
      exact hK
    · cases e1
  | ok s =>
    obtain ⟨p, lk, q⟩ := s
    obtain ⟨⟨hr, hp⟩, -, -, -, e4, hl⟩ := h.2
    cases q with
    | none =>
      refine And.intro (fun z => absurd e4 z) (fun _ => And.intro (fun z => absurd hl z) (fun _ => ?_))
      conv => whnf
      exact hK
    | some q =>
      obtain ⟨h1, h2, h3⟩ := hl
      have hrq : rch B n q.2 := ⟨by have := hr.1; omega, fun i hi => hr.2 i (by omega)⟩
      refine And.intro (fun z => absurd e4 z) (fun _ => And.intro (fun z => ?_) (fun z => ?_))
      · conv => whnf
        refine And.intro (fun _ => ?_) (fun z => absurd e4 z)
        conv => whnf
        rw [h3]
        refine cl_use (fun K h => c_fromOf Ω M B n q.2 K htk hrq h) trivial ?_
        conv => whnf
        exact hK
      · have e : mI M 4 0 6 = 0 := z
        rw [h2] at e
        rcases h1.1 with g | g | g <;> (rw [g] at e; exact absurd e (by decide))
