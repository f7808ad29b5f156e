/-! READ: the model's read, II -/
def wFi (p k _i s : Nat) : Bool := (Nat.beq k 12 && (Nat.beq s 17 || (Nat.beq s 18 || Nat.beq s 19))) || ((Nat.beq k 83 || Nat.beq k 119) && Nat.beq (s / 4) p)
theorem wRz_fi {p : Nat} : ∀ k i s, wRz p k i s = false → wFi p k i s = false := mono_of (fun k i s h => by
  have q : (k = 12 ∧ (s = 17 ∨ s = 18 ∨ s = 19)) ∨ (k = 83 ∧ s / 4 = p) ∨ (k = 119 ∧ s / 4 = p) := by
    simp [wFi, nb_d] at h
    omega
  rcases q with ⟨rfl, q⟩ | ⟨rfl, q⟩ | ⟨rfl, q⟩
  · simp [wRz, nb_d]; omega
  · simp [wRz, wPr, nb_d, nl_d, psz, szf]; omega
  · simp [wRz, nb_d]; omega)
set_option maxHeartbeats 1000000 in
theorem zs_loop {Ω : Om} {K : Ka} {M0 : Mem} {p : Nat} (hp : p < 4) (h19 : mI M0 12 0 19 = nI p)
    (hN : ∀ M', Un (fun k _ s => Nat.beq k 119 && Nat.beq (s / 4) p) M0 M' → (∀ j, j < 4 → mI M' 119 0 (4 * p + j) = 0) → K (some (vI 0)) M') :
    ∀ f i M, i + f = 4 → Un (fun k _ s => Nat.beq k 119 && Nat.beq (s / 4) p) M0 M → (∀ j, j < i → mI M 119 0 (4 * p + j) = 0) → GoS Ω true m_MD_read K 274 [some (vR (some (12, 0))), some (vI (nI i))] [] M 0 0 := by
  intro f
  induction f with
  | zero =>
    intro i M hi hU hA
    refine go_wp ok_MD_read [] 250 _ _ _ _ _ _ ?_
    refine And.intro (fun _ => ?_) (fun q => absurd (show nI 4 ≤ nI i by rw [show i = 4 by omega]; exact Int32.le_refl _) q)
    conv => whnf
    exact hN M hU (fun j hj => hA j (by omega))
  | succ f ih =>
    intro i M hi hU hA
    refine go_wp ok_MD_read [274] 250 _ _ _ _ _ _ ?_
    refine And.intro (fun q => ?_) (fun _ => ?_)
    · have q : nI 4 ≤ nI i := q
      rw [nI_leI (by omega) (by omega)] at q
      omega
    conv => whnf
    rw [(hU.I rfl).trans h19, show (4 : Int32) = nI 4 from rfl, pk_mul, nI_add]
    refine And.intro (vp_in_nI (by omega) (by decide)) (And.intro (Or.inl rfl) ?_)
    rw [nI_clamp (by omega)]
    conv => whnf
    rw [nI_1]
    refine ih (i + 1) _ (by omega) (hU.pI (by simp [nb_d]; omega)) (fun j hj => ?_)
    by_cases e : j = i
    · rw [e, mI_eq]
    · rw [mI_sI, if_neg (fun c => e (by have := c.2.2; omega))]
      exact hA j (by omega)
set_option maxHeartbeats 1000000 in
theorem zh_loop {Ω : Om} {K : Ka} {M0 : Mem} {p : Nat} (hp : p < 4) (h19 : mI M0 12 0 19 = nI p)
    (hN : ∀ M' a1, Un (fun k _ s => Nat.beq k 83 && Nat.beq (s / 4) p) M0 M' → (∀ j, j < 4 → mI M' 83 0 (4 * p + j) = 0) → GoS Ω true m_MD_read K 272 [some (vR (some (12, 0))), a1] [] M' 0 0) :
    ∀ f i M, i + f = 4 → Un (fun k _ s => Nat.beq k 83 && Nat.beq (s / 4) p) M0 M → (∀ j, j < i → mI M 83 0 (4 * p + j) = 0) → GoS Ω true m_MD_read K 247 [some (vR (some (12, 0))), some (vI (nI i))] [] M 0 0 := by
  intro f
  induction f with
  | zero =>
    intro i M hi hU hA
    refine go_wp ok_MD_read [272] 250 _ _ _ _ _ _ ?_
    refine And.intro (fun _ => ?_) (fun q => absurd (show nI 4 ≤ nI i by rw [show i = 4 by omega]; exact Int32.le_refl _) q)
    exact hN M _ hU (fun j hj => hA j (by omega))
  | succ f ih =>
    intro i M hi hU hA
    refine go_wp ok_MD_read [247] 250 _ _ _ _ _ _ ?_
    refine And.intro (fun q => ?_) (fun _ => ?_)
    · have q : nI 4 ≤ nI i := q
      rw [nI_leI (by omega) (by omega)] at q
      omega
    conv => whnf
    rw [(hU.I rfl).trans h19, show (4 : Int32) = nI 4 from rfl, pk_mul, nI_add]
    refine And.intro (vp_in_nI (by omega) (by decide)) ?_
    rw [nI_clamp (by omega)]
    conv => whnf
    rw [nI_1]
    refine ih (i + 1) _ (by omega) (hU.pI (by simp [nb_d]; omega)) (fun j hj => ?_)
    by_cases e : j = i
    · rw [e, mI_eq]
    · rw [mI_sI, if_neg (fun c => e (by have := c.2.2; omega))]
      exact hA j (by omega)
set_option maxHeartbeats 2000000 in
/-- from behind the tells to the end -/
theorem rd_170 {Ω : Om} {K : Ka} {M : Mem} {B : Nat → Nat} {n p : Nat} {tl : Except Fa (Ps × Cn)} {a1 : Option Vl} (hn : n ≤ 2000) (hp : p < 4) (h : PsM M B n (eb tl fun r => .ok r.1)) (h18 : mI M 12 0 18 = nI p)
    (hE : ∀ M' a, Un (w1 12 17) M M' → rdA (eb tl fun r => .ok r.1) = a → ¬ a = 0 → mI M' 12 0 17 = rdP B n (eb tl fun r => .ok r.1) → K (some (vI (nI a))) M')
    (hO : ∀ M' r, Un (wFi p) M M' → tl = .ok r → r.1.2.2 = none → mI M' 12 0 17 = -1 → mI M' 12 0 18 = nI (p + 1) → mI M' 12 0 19 = nI p → (∀ j, j < 4 → mI M' 83 0 (4 * p + j) = 0) → (∀ j, j < 4 → mI M' 119 0 (4 * p + j) = 0) → K (some (vI 0)) M') :
    GoS Ω true m_MD_read K 170 [some (vR (some (12, 0))), a1] [] M 0 0 := by
  cases tl with
  | error f =>
    obtain ⟨⟨hf, hr⟩, _, e13, e14⟩ := h.2
    have hf3 : f.1 < 3 ∧ 0 < f.1 := by omega
    refine go_wp ok_MD_read [] 250 _ _ _ _ _ _ ?_
    conv => whnf
    rw [e13]
    refine And.intro (fun q => ?_) (fun _ => ?_)
    · have q : nI f.1 ≤ nI 0 := q
      rw [nI_leI (by omega) (by omega)] at q
      omega
    conv => whnf
    rw [e14]
    have Q1 : Un (w1 12 17) M (sI M 12 0 17 (nI (psS B n f.2))) := w1_I
    have z1 : mI (sI M 12 0 17 (nI (psS B n f.2))) 12 0 17 = nI (psS B n f.2) := mI_eq
    have i13 : mI (sI M 12 0 17 (nI (psS B n f.2))) 12 0 13 = nI f.1 := (mI_st rfl).trans e13
    generalize sI M 12 0 17 (nI (psS B n f.2)) = M1 at Q1 z1 i13
    rw [i13]
    refine And.intro (fun q => ?_) (fun _ => ?_)
    · have q : nI f.1 ≤ nI 0 := q
      rw [nI_leI (by omega) (by omega)] at q
      omega
    conv => whnf
    rw [i13]
    exact hE M1 f.1 Q1 rfl (by omega) z1
  | ok r =>
    obtain ⟨_, _, e13, hl⟩ := h.2
    refine go_wp ok_MD_read [247] 250 _ _ _ _ _ _ ?_
    conv => whnf
    rw [e13]
    refine And.intro (fun _ => ?_) (fun q => absurd (by decide) q)
    conv => whnf
    cases hlt : r.1.2.2 with
    | some q =>
      rw [hlt] at hl
      obtain ⟨⟨hq, _⟩, e15, e16⟩ := hl
      have eA : rdA (eb (.ok r) fun r : Ps × Cn => .ok r.1) = q.1 := by
        show (match r.1.2.2 with | none => 0 | some q => q.1) = q.1
        rw [hlt]
      have eP : rdP B n (eb (.ok r) fun r : Ps × Cn => .ok r.1) = nI (psS B n q.2) := by
        show (match r.1.2.2 with | none => -1 | some q => nI (psS B n q.2)) = _
        rw [hlt]
      rw [e15]
      refine And.intro (fun z => ?_) (fun _ => ?_)
      · have z : nI q.1 ≤ nI 0 := z
        rw [nI_leI (by omega) (by omega)] at z
        omega
      conv => whnf
      rw [e16]
      have Q1 : Un (w1 12 17) M (sI M 12 0 17 (nI (psS B n q.2))) := w1_I
      have z1 : mI (sI M 12 0 17 (nI (psS B n q.2))) 12 0 17 = nI (psS B n q.2) := mI_eq
      have i13 : mI (sI M 12 0 17 (nI (psS B n q.2))) 12 0 13 = 0 := (mI_st rfl).trans e13
      have i15 : mI (sI M 12 0 17 (nI (psS B n q.2))) 12 0 15 = nI q.1 := (mI_st rfl).trans e15
      generalize sI M 12 0 17 (nI (psS B n q.2)) = M1 at Q1 z1 i13 i15
      rw [i13]
      refine And.intro (fun _ => ?_) (fun z => absurd (by decide) z)
      conv => whnf
      rw [i15]
      refine And.intro (fun z => ?_) (fun _ => ?_)
      · have z : nI q.1 ≤ nI 0 := z
        rw [nI_leI (by omega) (by omega)] at z
        omega
      conv => whnf
      rw [i15]
      exact hE M1 q.1 Q1 eA (by omega) (z1.trans eP.symm)
    | none =>
      rw [hlt] at hl
      have e15 : mI M 12 0 15 = 0 := hl
      rw [e15]
      refine And.intro (fun _ => ?_) (fun z => absurd (by decide) z)
      conv => whnf
      have Q1 : Un (wFi p) M (sI M 12 0 17 (-1)) := Un.rfl.pI rfl
      have z1 : mI (sI M 12 0 17 (-1)) 12 0 17 = -1 := mI_eq
      have i13 : mI (sI M 12 0 17 (-1)) 12 0 13 = 0 := (mI_st rfl).trans e13
      have i15 : mI (sI M 12 0 17 (-1)) 12 0 15 = 0 := (mI_st rfl).trans e15
      have i18 : mI (sI M 12 0 17 (-1)) 12 0 18 = nI p := (mI_st rfl).trans h18
      generalize sI M 12 0 17 (-1) = M1 at Q1 z1 i13 i15 i18
      rw [i13]
      refine And.intro (fun _ => ?_) (fun z => absurd (by decide) z)
      conv => whnf
      rw [i15]
      refine And.intro (fun _ => ?_) (fun z => absurd (by decide) z)
      conv => whnf
      rw [i18]
      have Q2 : Un (wFi p) M1 (sI M1 12 0 19 (nI p)) := Un.rfl.pI rfl
      have z2 : mI (sI M1 12 0 19 (nI p)) 12 0 17 = -1 := (mI_st rfl).trans z1
      have j18 : mI (sI M1 12 0 19 (nI p)) 12 0 18 = nI p := (mI_st rfl).trans i18
      have j19 : mI (sI M1 12 0 19 (nI p)) 12 0 19 = nI p := mI_eq
      generalize sI M1 12 0 19 (nI p) = M2 at Q2 z2 j18 j19
      rw [j18, nI_1]
      have Q3 : Un (wFi p) M2 (sI M2 12 0 18 (nI (p + 1))) := Un.rfl.pI rfl
      have z3 : mI (sI M2 12 0 18 (nI (p + 1))) 12 0 17 = -1 := (mI_st rfl).trans z2
      have k18 : mI (sI M2 12 0 18 (nI (p + 1))) 12 0 18 = nI (p + 1) := mI_eq
      have k19 : mI (sI M2 12 0 18 (nI (p + 1))) 12 0 19 = nI p := (mI_st rfl).trans j19
      generalize sI M2 12 0 18 (nI (p + 1)) = M3 at Q3 z3 k18 k19
      refine zh_loop (M0 := M3) hp k19 (fun M4 a1' U4 A4 => ?_) 4 0 M3 rfl Un.rfl (fun j hj => absurd hj (Nat.not_lt_zero _))
      refine go_wp ok_MD_read [274] 250 _ _ _ _ _ _ ?_
      conv => whnf
      refine zs_loop (M0 := M4) hp ((U4.I rfl).trans k19) (fun M5 U5 A5 => ?_) 4 0 M4 rfl Un.rfl (fun j hj => absurd hj (Nat.not_lt_zero _))
      have m4 : ∀ k i s, wFi p k i s = false → (Nat.beq k 83 && Nat.beq (s / 4) p) = false := fun k i s q => Bool.eq_false_iff.mpr (fun z => by
        simp [nb_d] at z
        simp [wFi, nb_d, z.1, z.2] at q)
      have m5 : ∀ k i s, wFi p k i s = false → (Nat.beq k 119 && Nat.beq (s / 4) p) = false := fun k i s q => Bool.eq_false_iff.mpr (fun z => by
        simp [nb_d] at z
        simp [wFi, nb_d, z.1, z.2] at q)
      exact hO M5 r (Q1.trans (Q2.trans (Q3.trans ((U4.mono m4).trans (U5.mono m5))))) rfl hlt ((U5.I rfl).trans ((U4.I rfl).trans z3)) ((U5.I rfl).trans ((U4.I rfl).trans k18)) ((U5.I rfl).trans ((U4.I rfl).trans k19)) (fun j hj => (U5.I rfl).trans (A4 j hj)) A5
set_option maxHeartbeats 4000000 in
theorem c_MD_read (Ω : Om) (M : Mem) (B : Nat → Nat) (n nt : Nat) (K : Ka) (hn : n ≤ 2000) (hB : ∀ i, i < n → mI M 67 0 i &&& 255 = nI (B i) ∧ B i < 256) (hw : ∀ s, s < 22 → mJ M 73 0 s = iJ 73 s) (h2 : mI M 12 0 2 = nI n) (h18 : mI M 12 0 18 = nI nt) (hnt : nt < 4)
    (hE : ∀ M' a, Un (wRz nt) M M' → rdA (eb (paT B n (pg M nt)) fun r => .ok r.1) = a → ¬ a = 0 → mI M' 12 0 2 = 0 → mI M' 12 0 17 = rdP B n (eb (paT B n (pg M nt)) fun r => .ok r.1) → mI M' 12 0 18 = nI nt → mI M' 12 0 19 = mI M 12 0 19 → K (some (vI (nI a))) M')
    (hO : ∀ M5 M' r, Un (wRz nt) M M' → paT B n (pg M nt) = .ok r → r.1.2.2 = none → CtM M5 nt r.2 r.1 → r.1.1 ≤ 500 → Un (wFi nt) M5 M' → mI M' 12 0 2 = 0 → mI M' 12 0 17 = -1 → mI M' 12 0 18 = nI (nt + 1) → mI M' 12 0 19 = nI nt → (∀ j, j < 4 → mI M' 83 0 (4 * nt + j) = 0) → (∀ j, j < 4 → mI M' 119 0 (4 * nt + j) = 0) → K (some (vI 0)) M') :
    CallS Ω true m_MD_read [vR (some (12, 0))] M K := by
  refine call_go (hJL rfl) (Nat.le_of_ble_eq_true rfl) (go_wp ok_MD_read [21] 250 _ _ _ _ _ _ ?_)
  conv => whnf
  rw [h18]
  refine And.intro (fun _ => ?_) (fun q => absurd ((nI_eq (by omega) (by decide)).mp (show nI nt = nI 4 from q)) (by omega))
  conv => whnf
  rw [h2]
  have Q1 : Un (w1 12 4) M (sI M 12 0 4 (nI n)) := w1_I
  have z4 : mI (sI M 12 0 4 (nI n)) 12 0 4 = nI n := mI_eq
  generalize sI M 12 0 4 (nI n) = M1 at Q1 z4
  refine rd_copy (M0 := M1) hn z4 (fun M2 a1 U2 A2 => ?_) n 0 M1 (by omega) Un.rfl (fun j hj => absurd hj (Nat.not_lt_zero _))
  refine go_wp ok_MD_read [148] 250 _ _ _ _ _ _ ?_
  conv => whnf
  have Q3 : Un (w1 12 2) M2 (sI M2 12 0 2 0) := w1_I
  have z2 : mI (sI M2 12 0 2 0) 12 0 2 = 0 := mI_eq
  generalize sI M2 12 0 2 0 = M3 at Q3 z2
  have hT : TpM M3 B n := ⟨(Q3.I rfl).trans ((U2.I rfl).trans z4), hn, fun i hi => by
    rw [Q3.I rfl, A2 i hi, b8_and, Q1.I rfl]
    exact hB i hi, fun s hs => by
    rw [Q3.J rfl, U2.J rfl, Q1.J rfl]
    exact hw s hs⟩
  refine ⟨fun r M' => r = none ∧ Un wTb M3 M' ∧ (∀ i, rch B n i → TkI M' B n i), c_MD_cut Ω M3 B n _ hT (fun M' a b => ⟨rfl, a, b⟩), trivial, ?_⟩
  rintro r M4 ⟨rfl, U4, T4⟩
  conv => whnf
  have e18 : mI (sI (sI (sI (sI M4 12 0 11 0) 12 0 12 0) 12 0 13 0) 12 0 15 0) 12 0 18 = nI nt := by
    rw [mI_st rfl, mI_st rfl, mI_st rfl, mI_st rfl, U4.I rfl, Q3.I rfl, U2.I rfl, Q1.I rfl]
    exact h18
  rw [e18]
  have V5 : Un (wRz nt) M4 (sI (sI (sI (sI (sI M4 12 0 11 0) 12 0 12 0) 12 0 13 0) 12 0 15 0) 12 0 20 (nI nt)) := ((((Un.rfl.pI (by simp [wRz, wPr, nb_d, nl_d])).pI (by simp [wRz, wPr, nb_d, nl_d])).pI (by simp [wRz, wPr, nb_d, nl_d])).pI (by simp [wRz, wPr, nb_d, nl_d])).pI (by simp [wRz, wPr, nb_d, nl_d])
  have c11 : mI (sI (sI (sI (sI (sI M4 12 0 11 0) 12 0 12 0) 12 0 13 0) 12 0 15 0) 12 0 20 (nI nt)) 12 0 11 = nI 0 := by
    rw [mI_st rfl, mI_st rfl, mI_st rfl, mI_st rfl, mI_eq]; rfl
  have c12 : mI (sI (sI (sI (sI (sI M4 12 0 11 0) 12 0 12 0) 12 0 13 0) 12 0 15 0) 12 0 20 (nI nt)) 12 0 12 = 0 := by
    rw [mI_st rfl, mI_st rfl, mI_st rfl, mI_eq]
  have c13 : mI (sI (sI (sI (sI (sI M4 12 0 11 0) 12 0 12 0) 12 0 13 0) 12 0 15 0) 12 0 20 (nI nt)) 12 0 13 = 0 := by
    rw [mI_st rfl, mI_st rfl, mI_eq]
  have c15 : mI (sI (sI (sI (sI (sI M4 12 0 11 0) 12 0 12 0) 12 0 13 0) 12 0 15 0) 12 0 20 (nI nt)) 12 0 15 = 0 := by
    rw [mI_st rfl, mI_eq]
  have c20 : mI (sI (sI (sI (sI (sI M4 12 0 11 0) 12 0 12 0) 12 0 13 0) 12 0 15 0) 12 0 20 (nI nt)) 12 0 20 = nI nt := mI_eq
  have k5 : ∀ k s, ¬ k = 12 → mI (sI (sI (sI (sI (sI M4 12 0 11 0) 12 0 12 0) 12 0 13 0) 12 0 15 0) 12 0 20 (nI nt)) k 0 s = mI M4 k 0 s ∧ mJ (sI (sI (sI (sI (sI M4 12 0 11 0) 12 0 12 0) 12 0 13 0) 12 0 15 0) 12 0 20 (nI nt)) k 0 s = mJ M4 k 0 s := fun k s hk => by
    have hb : Nat.beq k 12 = false := by rw [nb_d]; exact decide_eq_false hk
    exact ⟨by rw [mI_ne hb, mI_ne hb, mI_ne hb, mI_ne hb, mI_ne hb], rfl⟩
  have g5 : ∀ s, s = 2 ∨ s = 18 ∨ s = 19 → mI (sI (sI (sI (sI (sI M4 12 0 11 0) 12 0 12 0) 12 0 13 0) 12 0 15 0) 12 0 20 (nI nt)) 12 0 s = mI M4 12 0 s := fun s hs => by
    rcases hs with rfl | rfl | rfl <;> rw [mI_st rfl, mI_st rfl, mI_st rfl, mI_st rfl, mI_st rfl]
  generalize sI (sI (sI (sI (sI M4 12 0 11 0) 12 0 12 0) 12 0 13 0) 12 0 15 0) 12 0 20 (nI nt) = M5 at V5 c11 c12 c13 c15 c20 k5 g5
  rw [c20]
  refine And.intro (vp_in_nI (by omega) (by decide)) ?_
  rw [nI_clamp (by omega)]
  have R1 : Un (w1 74 nt) M5 (sI M5 74 0 nt 0) := w1_I
  have y1 : mI (sI M5 74 0 nt 0) 74 0 nt = nI 0 := mI_eq
  generalize sI M5 74 0 nt 0 = M6 at R1 y1
  conv => whnf
  rw [(R1.I rfl).trans c20]
  refine And.intro (vp_in_nI (by omega) (by decide)) ?_
  rw [nI_clamp (by omega)]
  have R2 : Un (w1 80 nt) M6 (sI M6 80 0 nt 0) := w1_I
  have y2 : mI (sI M6 80 0 nt 0) 80 0 nt = nI 0 := mI_eq
  generalize sI M6 80 0 nt 0 = M7 at R2 y2
  conv => whnf
  rw [(R2.I rfl).trans ((R1.I rfl).trans c20)]
  refine And.intro (vp_in_nI (by omega) (by decide)) ?_
  rw [nI_clamp (by omega)]
  have R3 : Un (w1 84 nt) M7 (sI M7 84 0 nt 0) := w1_I
  have y3 : mI (sI M7 84 0 nt 0) 84 0 nt = nI 0 := mI_eq
  generalize sI M7 84 0 nt 0 = M8 at R3 y3
  conv => whnf
  rw [(R3.I rfl).trans ((R2.I rfl).trans ((R1.I rfl).trans c20))]
  refine And.intro (vp_in_nI (by omega) (by decide)) ?_
  rw [nI_clamp (by omega)]
  have R4 : Un (w1 97 nt) M8 (sI M8 97 0 nt 0) := w1_I
  have y4 : mI (sI M8 97 0 nt 0) 97 0 nt = nI 0 := mI_eq
  generalize sI M8 97 0 nt 0 = M9 at R4 y4
  have d20 : mI M9 12 0 20 = nI nt := (R4.I rfl).trans ((R3.I rfl).trans ((R2.I rfl).trans ((R1.I rfl).trans c20)))
  conv => whnf
  rw [d20, show (200 : Int32) = nI 200 from rfl, pk_mul]
  have R5 : Un (w1 12 48) M9 (sI M9 12 0 48 (nI (200 * nt))) := w1_I
  have y5 : mI (sI M9 12 0 48 (nI (200 * nt))) 12 0 48 = nI (200 * nt + 0) := mI_eq
  have d20' : mI (sI M9 12 0 48 (nI (200 * nt))) 12 0 20 = nI nt := (R5.I rfl).trans d20
  generalize sI M9 12 0 48 (nI (200 * nt)) = Ma at R5 y5 d20'
  rw [d20', show (520 : Int32) = nI 520 from rfl, pk_mul]
  have R6 : Un (w1 12 55) Ma (sI Ma 12 0 55 (nI (520 * nt))) := w1_I
  have y6 : mI (sI Ma 12 0 55 (nI (520 * nt))) 12 0 55 = nI (520 * nt + 0) := mI_eq
  generalize sI Ma 12 0 55 (nI (520 * nt)) = Mb at R6 y6
  have keep : ∀ k s, ¬ (k = 74 ∧ s = nt) → ¬ (k = 80 ∧ s = nt) → ¬ (k = 84 ∧ s = nt) → ¬ (k = 97 ∧ s = nt) → ¬ (k = 12 ∧ s = 48) → ¬ (k = 12 ∧ s = 55) → mI Mb k 0 s = mI M5 k 0 s ∧ mJ Mb k 0 s = mJ M5 k 0 s := fun k s n1 n2 n3 n4 n5 n6 =>
    ⟨(R6.I (w1_no n6)).trans ((R5.I (w1_no n5)).trans ((R4.I (w1_no n4)).trans ((R3.I (w1_no n3)).trans ((R2.I (w1_no n2)).trans (R1.I (w1_no n1)))))), (R6.J (w1_no n6)).trans ((R5.J (w1_no n5)).trans ((R4.J (w1_no n4)).trans ((R3.J (w1_no n3)).trans ((R2.J (w1_no n2)).trans (R1.J (w1_no n1))))))⟩
  have pre : ∀ k s, ¬ k = 12 → ¬ (68 ≤ k ∧ k ≤ 72) → mI M4 k 0 s = mI M k 0 s := fun k s n1 n2 =>
    (U4.I (by simp [wTb, nb_d, nl_d]; omega)).trans ((Q3.I (w1_no (by omega))).trans ((U2.I (by simp [w68, nb_d]; omega)).trans (Q1.I (w1_no (by omega)))))
  have Ub : Un (wRz nt) M Mb := (Q1.mono (wRz_12 (by omega))).trans ((U2.mono wRz_68).trans ((Q3.mono (wRz_12 (by omega))).trans ((U4.mono wRz_tb).trans (V5.trans ((R1.mono (wRz_ct (by omega))).trans ((R2.mono (wRz_ct (by omega))).trans ((R3.mono (wRz_ct (by omega))).trans ((R4.mono (wRz_ct (by omega))).trans ((R5.mono (wRz_12 (by omega))).trans (R6.mono (wRz_12 (by omega))))))))))))
  have Pb : PsM Mb B n (.ok (0, 0, none)) := by
    refine ⟨fun i hi => ?_, ⟨⟨Nat.zero_le _, fun j hj => absurd hj (Nat.not_lt_zero _)⟩, rfl⟩, ?_, ?_, ?_⟩
    · obtain ⟨t1, t2, t3, t4⟩ := T4 i hi
      refine ⟨?_, ?_, fun hk => ?_, fun hk => ?_⟩
      · rw [(keep 69 i (by omega) (by omega) (by omega) (by omega) (by omega) (by omega)).1, (k5 69 i (by decide)).1]; exact t1
      · rw [(keep 70 i (by omega) (by omega) (by omega) (by omega) (by omega) (by omega)).1, (k5 70 i (by decide)).1]; exact t2
      · rw [(keep 71 i (by omega) (by omega) (by omega) (by omega) (by omega) (by omega)).1, (k5 71 i (by decide)).1]; exact t3 hk
      · rw [(keep 72 i (by omega) (by omega) (by omega) (by omega) (by omega) (by omega)).2, (k5 72 i (by decide)).2]; exact t4 hk
    · exact (keep 12 11 (by omega) (by omega) (by omega) (by omega) (by omega) (by omega)).1.trans c11
    · exact (keep 12 13 (by omega) (by omega) (by omega) (by omega) (by omega) (by omega)).1.trans c13
    · exact (keep 12 15 (by omega) (by omega) (by omega) (by omega) (by omega) (by omega)).1.trans c15
  have Cb : CtM Mb nt (pg M nt, [], (0, 0, 0, 0), fun _ => []) (0, 0, none) := by
    have pgs : ∀ f a, 74 ≤ f → f ≤ 96 → ¬ f = 74 → ¬ f = 80 → ¬ f = 84 → mI Mb f 0 (szf f * nt + a) = pg M nt f a := fun f a h1 h2 n1 n2 n3 => by
      rw [(keep f _ (by omega) (by omega) (by omega) (by omega) (by omega) (by omega)).1, (k5 f _ (by omega)).1, pre f _ (by omega) (by omega)]
      exact pgI (by rw [Nat.ble_eq.mpr h1, Nat.ble_eq.mpr (show f ≤ 108 by omega)]; rfl) rfl
    refine ⟨⟨(keep 12 20 (by omega) (by omega) (by omega) (by omega) (by omega) (by omega)).1.trans c20, (keep 12 12 (by omega) (by omega) (by omega) (by omega) (by omega) (by omega)).1.trans c12⟩, ⟨?_, ?_, ?_, ?_⟩, ⟨Nat.zero_le _, Nat.zero_le _, Nat.zero_le _, Nat.zero_le _⟩, fun f a hf ha => ?_, fun _ => ⟨fun f a hf ha => ?_, ⟨fun k hk => absurd hk (Nat.not_lt_zero _), fun k hk => absurd hk (Nat.not_lt_zero _), fun k hk => absurd hk (Nat.not_lt_zero _), fun k hk => absurd hk (Nat.not_lt_zero _), (fun q hq => by cases hq), List.Pairwise.nil⟩⟩, 0, 0, ⟨by decide, by decide⟩, (R6.I rfl).trans y5, y6, fun b hb => absurd hb (Nat.not_lt_zero _)⟩
    · exact (R6.I rfl).trans ((R5.I rfl).trans ((R4.I rfl).trans ((R3.I rfl).trans ((R2.I rfl).trans y1))))
    · exact (R6.I rfl).trans ((R5.I rfl).trans ((R4.I rfl).trans ((R3.I rfl).trans y2)))
    · exact (R6.I rfl).trans ((R5.I rfl).trans ((R4.I rfl).trans y3))
    · exact (R6.I rfl).trans ((R5.I rfl).trans y4)
    · have q := pgf_ge hf
      exact pgs f a (by omega) (by omega) (by omega) (by omega) (by omega)
    · have q := nmf_ge hf
      exact pgs f a (by omega) (by omega) (by omega) (by omega) (by omega)
  have b18 : mI Mb 12 0 18 = nI nt := by
    rw [(keep 12 18 (by omega) (by omega) (by omega) (by omega) (by omega) (by omega)).1, g5 18 (by omega), U4.I rfl, Q3.I rfl, U2.I rfl, Q1.I rfl]; exact h18
  have b19 : mI Mb 12 0 19 = mI M 12 0 19 := by
    rw [(keep 12 19 (by omega) (by omega) (by omega) (by omega) (by omega) (by omega)).1, g5 19 (by omega), U4.I rfl, Q3.I rfl, U2.I rfl, Q1.I rfl]
  have b2 : mI Mb 12 0 2 = 0 := by
    rw [(keep 12 2 (by omega) (by omega) (by omega) (by omega) (by omega) (by omega)).1, g5 2 (by omega), U4.I rfl]; exact z2
  refine rd_loop (M0 := Mb) (tl := paT B n (pg M nt)) hn hnt (fun M' a1 U' P' G' => ?_) 501 (0, 0, none) _ Mb _ (by decide) Un.rfl Pb Cb rfl
  refine rd_170 hn hnt P' ((U'.I rfl).trans b18) (fun M2 a U2 ha h0 hp2 => ?_) (fun M2 r U2 hr hlt y1 y2 y3 y4 y5 => ?_)
  · exact hE M2 a (Ub.trans ((U'.mono wRz_pr).trans (U2.mono (wRz_12 (by omega))))) ha h0 ((U2.I rfl).trans ((U'.I rfl).trans b2)) hp2 ((U2.I rfl).trans ((U'.I rfl).trans b18)) ((U2.I rfl).trans ((U'.I rfl).trans b19))
  · exact hO M' M2 r (Ub.trans ((U'.mono wRz_pr).trans (U2.mono wRz_fi))) hr hlt (G' r hr) (by rw [hr] at P'; exact P'.2.1.1.1) U2 ((U2.I rfl).trans ((U'.I rfl).trans b2)) y1 y2 y3 y4 y5
