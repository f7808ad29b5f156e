/-! READ: the class's read -/
theorem CtC.un {M M' : Mem} {t : Nat} {C : Cn} {s : Ps} {w : Nat → Nat → Nat → Bool} (h : CtC M t C s) (hU : Un w M M') (hw : ∀ k i s, ¬ k = 11 → w k i s = false) : CtC M' t C s := by
  have u : ∀ k i s, ¬ k = 11 → mI M' k i s = mI M k i s := fun k i s h => hU.I (hw k i s h)
  obtain ⟨⟨⟨c1, c2, c3, c4⟩, d1, d2, d3, d4⟩, ⟨⟨a1, a2, a3⟩, ⟨b1, b2, b3⟩⟩, ⟨l1, l2⟩, h43, ⟨w1, w2⟩, ⟨hN, nl⟩, st1, st2, st3⟩ := h
  refine ⟨⟨⟨(u _ _ _ (by decide)).trans c1, (u _ _ _ (by decide)).trans c2, (u _ _ _ (by decide)).trans c3, (u _ _ _ (by decide)).trans c4⟩, d1, d2, d3, d4⟩, ⟨⟨a1, a2, (u _ _ _ (by decide)).trans a3⟩, ⟨b1, b2, (u _ _ _ (by decide)).trans b3⟩⟩, ⟨fun k hk => ?_, fun k h1 h2 => (u _ _ _ (by decide)).trans (l2 k h1 h2)⟩, fun h hh => (u _ _ _ (by decide)).trans (h43 h hh), ⟨fun w hw' => ?_, fun w h1 h2 => (w2 w h1 h2).un hU (fun s => hw _ _ _ (by decide))⟩, ⟨fun e => (hN e).un hU (hw _ _ _ (by decide)) (fun k s hk => hw _ _ _ (by omega)), nl⟩, st1.cg hU (hw _ _ _ (by decide)) (fun i s => hw _ _ _ (by decide)) (fun i s => hw _ _ _ (by decide)), st2, fun b hb => (u _ _ _ (by decide)).trans (st3 b hb)⟩
  · obtain ⟨np, x1, x2, x3⟩ := l1 k hk
    exact ⟨np, x1, x2, x3.cg x1 (fun k' s hk' => u _ _ _ (by omega)) (fun f j _ _ => rfl)⟩
  · exact (w1 w hw').cg (by omega) (fun k s hk => u _ _ _ (by omega)) (fun f a _ _ _ => rfl) (fun j _ => rfl) (fun f j _ _ _ => rfl) id
def wRh (t k i s : Nat) : Bool := wTx t k i s || (Nat.beq k 11 && (Nat.beq s 1 || (Nat.beq s 2 || (Nat.beq s 4 || Nat.beq s 5))))
theorem rdA_le {M : Mem} {B : Nat → Nat} {n : Nat} {e : Except Fa Ps} (h : PsC M B n e) : rdA e ≤ 5 := by
  cases e with
  | error f =>
    have := h.2.1.1
    show f.1 ≤ 5
    omega
  | ok s =>
    obtain ⟨p, lk, q⟩ := s
    have hl := h.2.2.2.2.2.2
    cases q with
    | none => exact Nat.zero_le _
    | some q =>
      have := hl.1.1
      show q.1 ≤ 5
      omega
def w11 (k _i s : Nat) : Bool := Nat.beq k 11 && (Nat.beq s 1 || (Nat.beq s 2 || (Nat.beq s 4 || Nat.beq s 5)))
set_option maxHeartbeats 1000000 in
theorem c_WH_read (Ω : Om) (M : Mem) (B : Nat → Nat) (n nt : Nat) (T0 : Tx) (K : Ka) (hn : n ≤ 2000) (hB : ∀ i, i < n → mI M 63 0 i &&& 255 = nI (B i) ∧ B i < 256) (hw : ∀ s, s < 22 → mJ M 49 0 s = iJ 49 s) (h1 : mI M 11 0 1 = nI n) (h4 : mI M 11 0 4 = nI nt) (hnt : nt < 4)
    (hK : ∀ M', Un (wRh nt) M M' → ClrF M' nt → (∀ r, paT B n T0 = .ok r → CtC M' nt r.2 r.1) → mI M' 11 0 1 = 0 → mI M' 11 0 2 = rdP B n (eb (paT B n T0) fun r => .ok r.1) → (rdA (eb (paT B n T0) fun r => .ok r.1) ≤ 5) → (rdA (eb (paT B n T0) fun r => .ok r.1) = 0 → mI M' 11 0 4 = nI (nt + 1) ∧ mI M' 11 0 5 = nI nt) → (¬ rdA (eb (paT B n T0) fun r => .ok r.1) = 0 → mI M' 11 0 4 = nI nt ∧ mI M' 11 0 5 = mI M 11 0 5) → K (some (vI (nI (rdA (eb (paT B n T0) fun r => .ok r.1))))) M') :
    CallS Ω true m_WH_read [vR (some (11, 0))] M K := by
  refine call_go (hJL rfl) (Nat.le_of_ble_eq_true rfl) (go_wp ok_WH_read [] 250 _ _ _ _ _ _ ?_)
  conv => whnf
  rw [h4]
  refine And.intro (fun _ => ?_) (fun z => absurd (show nI nt < nI 4 from by rw [nI_ltI (by omega) (by omega)]; exact hnt) z)
  conv => whnf
  rw [h4]
  refine And.intro (vp_in_nI (by omega) (by decide)) ?_
  rw [nI_clamp (by omega), rr_text hnt]
  conv => whnf
  rw [h1]
  generalize hq : (eb (paT B n T0) fun r => .ok r.1 : Except Fa Ps) = e at hK
  refine ⟨fun r M' => r = some (vI (nI (rdA e))) ∧ Un (wTx nt) M M' ∧ PsC M' B n e ∧ ClrF M' nt ∧ (∀ r, paT B n T0 = .ok r → CtC M' nt r.2 r.1), c_parse Ω M B n nt T0 _ hn hB hw (fun M' a b c d => ⟨by rw [hq], a, by rw [← hq]; exact b, c, d⟩), trivial, ?_⟩
  rintro r M1 ⟨rfl, U1, P1, F1, C1⟩
  conv => whnf
  refine cl_use (fun K h => c_placeOf Ω M1 B n e K P1 h) trivial ?_
  conv => whnf
  have hA := rdA_le P1
  generalize rdP B n e = pv at hK
  generalize rdA e = av at hK hA
  have g4 : mI M1 11 0 4 = nI nt := (U1.I (by simp [wTx, nb_d, nl_d])).trans h4
  have g5 : mI M1 11 0 5 = mI M 11 0 5 := U1.I (by simp [wTx, nb_d, nl_d])
  have up : ∀ M', Un w11 M1 M' → Un (wRh nt) M M' := fun M' h => (U1.mono (fun k i s q => (Bool.or_eq_false_iff.mp q).1)).trans (h.mono (fun k i s q => (Bool.or_eq_false_iff.mp q).2))
  have o11 : ∀ k i s, ¬ k = 11 → w11 k i s = false := fun k i s h => by simp [w11, nb_d, h]
  refine And.intro (fun z => ?_) (fun z => ?_)
  · have z' : ¬ av = 0 := fun q => z (by rw [q]; rfl)
    have U2 : Un w11 M1 (sI (sI M1 11 0 2 pv) 11 0 1 0) := (Un.rfl.pI rfl).pI rfl
    exact hK _ (up _ U2) (F1.un U2 (fun i => o11 _ _ _ (by decide)) (fun i s => o11 _ _ _ (by decide)) (fun s => o11 _ _ _ (by decide))) (fun r hr => (C1 r hr).un U2 o11) mI_eq (by rw [mI_st rfl, mI_eq]) hA (fun q => absurd q z') (fun _ => ⟨by rw [mI_st rfl, mI_st rfl]; exact g4, by rw [mI_st rfl, mI_st rfl]; exact g5⟩)
  · have z' : av = 0 := (nI_eq (by omega) (by omega)).mp (show nI av = nI 0 from z)
    have e4 : mI (sI (sI M1 11 0 2 pv) 11 0 1 0) 11 0 4 = nI nt := by rw [mI_st rfl, mI_st rfl]; exact g4
    conv => whnf
    rw [e4, mI_st rfl, e4, nI_1]
    have U2 : Un w11 M1 (sI (sI (sI (sI M1 11 0 2 pv) 11 0 1 0) 11 0 5 (nI nt)) 11 0 4 (nI (nt + 1))) := (((Un.rfl.pI rfl).pI rfl).pI rfl).pI rfl
    exact hK _ (up _ U2) (F1.un U2 (fun i => o11 _ _ _ (by decide)) (fun i s => o11 _ _ _ (by decide)) (fun s => o11 _ _ _ (by decide))) (fun r hr => (C1 r hr).un U2 o11) (by rw [mI_st rfl, mI_st rfl, mI_eq]) (by rw [mI_st rfl, mI_st rfl, mI_st rfl, mI_eq]) hA (fun _ => ⟨mI_eq, by rw [mI_st rfl, mI_eq]⟩) (fun q => absurd z' q)
