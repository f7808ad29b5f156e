/-! READ: the class's reader: a hinge; a strip -/
def wHb (t h k i s : Nat) : Bool := Nat.beq i t && ((Nat.beq k 43 && Nat.beq s h) || (Nat.beq k 7 && Nat.beq s 4))
def wHi (t h k i s : Nat) : Bool := wNa t k i s || wHb t h k i s
theorem wHi_na {t h : Nat} : ∀ k i s, wHi t h k i s = false → wNa t k i s = false := fun k i s q => (Bool.or_eq_false_iff.mp q).1
theorem wHi_re {t h : Nat} : ∀ k i s, wHi t h k i s = false → wRe k i s = false := fun k i s q => wNa_re k i s (wHi_na k i s q)
theorem PsC.hb {M M' : Mem} {B : Nat → Nat} {n t h : Nat} {e : Except Fa Ps} (hP : PsC M B n e) (hU : Un (wHb t h) M M') : PsC M' B n e := hP.un hU (fun s _ => by simp [wHb, nb_d]) (fun _ => by simp [wHb, nb_d]) (fun k s hk => by simp [wHb, nb_d]; omega)
theorem San1.hb {M M' : Mem} {t h : Nat} (hS : San1 M t) (hU : Un (wHb t h) M M') : San1 M' t := by
  obtain ⟨c, a, b⟩ := hS
  exact ⟨c, a, (hU.I (by simp [wHb, nb_d])).trans b⟩
theorem NmC.hb {M M' : Mem} {t h : Nat} {N : Nm} (hN : NmC M t N) (hU : Un (wHb t h) M M') : NmC M' t N := hN.un hU (by simp [wHb, nb_d]) (fun k s hk => by simp [wHb, nb_d]; omega)
set_option maxHeartbeats 4000000 in
set_option maxRecDepth 4000 in
theorem c_tellHinge (Ω : Om) (M : Mem) (B : Nat → Nat) (n t : Nat) (s : Ps) (C : Cn) (K : Ka) (h : PsC M B n (.ok s)) (h1 : mI M 7 t 4 = nI (xh C)) (h8 : xh C ≤ 4) (hS1 : San1 M t) (hN : s.2.2 = none → NmC M t (xN C)) (hlen : xh C < 4 → (xN C).length < 24)
    (hK : ∀ M', Un (wHi t (xh C)) M M' → PsC M' B n (eb (hiS B n s C) fun r => .ok r.1) → San1 M' t → (∀ r, hiS B n s C = .ok r → xh C < 4 ∧ mI M' 7 t 4 = nI (xh C + 1) ∧ mI M' 43 t (xh C) = xT r.2 82 (xh C) ∧ (r.1.2.2 = none → NmC M' t (xN r.2))) → K none M') :
    CallS Ω true m_Reader_tellHinge [vR (some (4, 0)), vR (some (7, t))] M K := by
  generalize hk : xh C = k at *
  refine call_go (hJL rfl) (Nat.le_of_ble_eq_true rfl) (go_wp ok_Reader_tellHinge [] 250 _ _ _ _ _ _ ?_)
  conv => whnf
  rw [h1]
  refine And.intro (fun q => absurd q (nI_pos (by omega))) (fun _ => And.intro (fun q => ?_) (fun q => ?_))
  rotate_left
  · have q : ¬ nI k < nI 4 := q
    rw [nI_ltI (by omega) (by omega)] at q
    conv => whnf
    refine ⟨fun r M' => r = none ∧ Un wRe M M' ∧ PsC M' B n (eb (.ok s) fun s => .error (2, s.1)), c_stop Ω M B n 2 (.ok s) _ (Or.inr rfl) h (fun M' a b => ⟨rfl, a, b⟩), trivial, ?_⟩
    rintro r M1 ⟨rfl, q1, q2⟩
    conv => whnf
    have e : hiS B n s C = .error (2, s.1) := by unfold hiS; rw [hk, if_pos (by omega)]
    refine hK M1 (q1.mono wHi_re) ?_ (hS1.re q1) (fun r hr => by rw [e] at hr; cases hr)
    rw [e, eb_x]
    rw [eb_k] at q2
    exact q2
  have q : nI k < nI 4 := q
  rw [nI_ltI (by omega) (by omega)] at q
  have hlen := hlen q
  conv => whnf
  refine ⟨fun r M' => r = none ∧ Un wRe M M' ∧ PsC M' B n (tkS B n 202 s), c_take Ω M B n 202 (.ok s) _ (by omega) h (fun M' a b => ⟨rfl, a, by rw [eb_k] at b; exact b⟩), trivial, ?_⟩
  rintro r M1 ⟨rfl, U1, P1⟩
  generalize hx1 : tkS B n 202 s = x1 at P1
  conv => whnf
  refine ⟨fun r M' => r = none ∧ Un (wNa t) M1 M' ∧ PsC M' B n (eb (eb x1 fun s => nmS B n 202 k s (xN C)) fun r => .ok r.1) ∧ San1 M' t ∧ (∀ r, (eb x1 fun s => nmS B n 202 k s (xN C)) = .ok r → r.1.2.2 = none → NmC M' t r.2), c_named Ω M1 B n t 202 k (xN C) x1 _ (by omega) P1 (hS1.re U1) hlen (fun s' hs' hn => (hN (by rw [← hx1] at hs'; exact (tkS_mo hs').1.2 hn)).re U1) (fun M' a b c d => ⟨rfl, a, b, c, d⟩), trivial, ?_⟩
  rintro r M2 ⟨rfl, U2, P2, S2, N2⟩
  generalize hx2 : (eb x1 fun s => nmS B n 202 k s (xN C)) = x2 at P2 N2
  have c2 : mI M2 7 t 4 = nI k := (U2.I (by simp [wNa, wNb, wRe, nb_d])).trans ((U1.I rfl).trans h1)
  conv => whnf
  refine ⟨fun r M' => ∃ v, r = some (vI v) ∧ Un wRe M2 M' ∧ PsC M' B n (eb (eb (eb x2 fun r => .ok r.1) (nuS B n 1 30)) fun r => .ok r.1) ∧ ∀ r, eb (eb x2 fun r => .ok r.1) (nuS B n 1 30) = .ok r → v = r.2, c_number Ω M2 B n 1 30 _ _ P2 (fun M' v a b c => ⟨v, rfl, a, b, c⟩), trivial, ?_⟩
  rintro r M3 ⟨v, rfl, U3, P3, V3⟩
  generalize hx3 : eb (eb x2 fun r => .ok r.1) (nuS B n 1 30) = x3 at P3 V3
  conv => whnf
  refine And.intro (vp_in_nI (by omega) (by decide)) ?_
  rw [nI_clamp (by omega)]
  conv => whnf
  have w43 : wHb t k 43 t k = true := by simp [wHb, nb_d]
  have UH : Un (wHb t k) M3 (sI M3 43 t k v) := Un.rfl.pI w43
  refine ⟨fun r M' => r = none ∧ Un wRe (sI M3 43 t k v) M' ∧ PsC M' B n (eb (eb x3 fun r => .ok r.1) (tkS B n 59)), c_take Ω _ B n 59 _ _ ⟨by decide, by decide⟩ (P3.hb UH) (fun M' a b => ⟨rfl, a, b⟩), trivial, ?_⟩
  rintro r M4 ⟨rfl, U4, P4⟩
  have c4 : mI M4 7 t 4 = nI k := (U4.I rfl).trans ((mI_ne rfl).trans ((U3.I rfl).trans c2))
  conv => whnf
  rw [c4, nI_1]
  have w7 : wHb t k 7 t 4 = true := by simp [wHb, nb_d]
  have UE : Un (wHb t k) M4 (sI M4 7 t 4 (nI (k + 1))) := Un.rfl.pI w7
  have wh : ∀ k' i s, wHi t k k' i s = false → wHb t k k' i s = false := fun k' i s q => (Bool.or_eq_false_iff.mp q).2
  have eq : eb (hiS B n s C) (fun r => .ok r.1) = eb (eb x3 fun r => .ok r.1) (tkS B n 59) := by
    rw [← hx3, ← hx2, ← hx1]
    unfold hiS
    rw [hk, if_neg (by omega)]
    simp only [eb_eb, eb_k, eb_id]
  refine hK _ (((((U1.mono wHi_re).trans (U2.mono wHi_na)).trans (U3.mono wHi_re)).trans (UH.mono wh)).trans ((U4.mono wHi_re).trans (UE.mono wh))) ?_ (((((S2.re U3).hb UH).re U4)).hb UE) (fun r hr => ⟨q, mI_eq, ?_, fun hn => ?_⟩)
  · rw [eq]
    exact P4.hb UE
  all_goals
    unfold hiS at hr
    rw [hk, if_neg (by omega)] at hr
    obtain ⟨a1, g1, hr⟩ := eb_ok hr
    obtain ⟨a2, g2, hr⟩ := eb_ok hr
    obtain ⟨a3, g3, hr⟩ := eb_ok hr
    obtain ⟨a4, g4, hr⟩ := eb_ok hr
    cases hr
    have f2 : x2 = .ok a2 := by rw [← hx2, ← hx1, g1, eb_k]; exact g2
    have f3 : x3 = .ok a3 := by rw [← hx3, f2, eb_k, eb_k]; exact g3
  · show mI _ 43 t k = upT (xT C) 82 k a3.2 82 k
    rw [mI_ne rfl, U4.I (k := 43) rfl, mI_eq, upT_eq]
    exact V3 a3 f3
  · have m : Mo a2.1 a4 := (nuS_mo g3).trans (tkS_mo g4).1
    exact (((((N2 a2 f2 (m.2 hn)).re U3).hb UH).re U4)).hb UE
/-- the strips' room -/
def San3 (M : Mem) (q : Nat) : Prop := ∃ c, c ≤ 10 ∧ mI M 10 q 0 = nI c
def wSb (q k i s : Nat) : Bool := Nat.beq i q && ((Nat.ble 57 k && Nat.ble k 61) || (Nat.beq k 10 && Nat.beq s 0))
/-- a wing while its strips are told -/
def WsP (M : Mem) (q w : Nat) (T : Tx) (ns : Nat) (lt : Option (Nat × Nat)) : Prop := mI M 10 q 0 = nI ns ∧ ∀ i, i < ns → mI M 57 q i = T 92 (10 * w + i) ∧ mI M 60 q i = T 95 (10 * w + i) ∧ (lt = none → mI M 58 q i = T 93 (10 * w + i) ∧ mI M 59 q i = T 94 (10 * w + i) ∧ mI M 61 q i = T 96 (10 * w + i))
theorem c_addStrip (Ω : Om) (M : Mem) (q : Nat) (x1 x2 x3 x4 x5 : Int32) (K : Ka) (hS : San3 M q) (hK : ∀ M', Un (wSb q) M M' → San3 M' q → (∀ ns, mI M 10 q 0 = nI ns → ns ≤ 9 → mI M' 10 q 0 = nI (ns + 1) ∧ (∀ k i, 57 ≤ k → k ≤ 61 → ¬ i = ns → mI M' k q i = mI M k q i) ∧ mI M' 57 q ns = x1 ∧ mI M' 58 q ns = x2 ∧ mI M' 59 q ns = x3 ∧ mI M' 60 q ns = x4 ∧ mI M' 61 q ns = x5) → K none M') : CallS Ω true m_Wing_addStrip [vR (some (10, q)), vI x1, vI x2, vI x3, vI x4, vI x5] M K := by
  obtain ⟨c, hc, h0⟩ := hS
  refine call_go (hJL rfl) (Nat.le_of_ble_eq_true rfl) (go_wp ok_Wing_addStrip [] 250 _ _ _ _ _ _ ?_)
  conv => whnf
  rw [h0]
  refine And.intro (fun z => ?_) (fun z => ?_)
  · have z : nI 10 ≤ nI c := z
    rw [nI_leI (by omega) (by omega)] at z
    refine hK M Un.rfl ⟨c, hc, h0⟩ (fun ns e hns => ?_)
    rw [h0] at e
    have := (nI_eq (by omega) (by omega)).mp e
    omega
  · have z : ¬ nI 10 ≤ nI c := z
    rw [nI_leI (by omega) (by omega)] at z
    conv => whnf
    rw [h0]
    refine And.intro (vp_in_nI (by omega) (by decide)) ?_
    rw [nI_clamp (by omega)]
    conv => whnf
    rw [mI_ne rfl, h0]
    refine And.intro (vp_in_nI (by omega) (by decide)) ?_
    rw [nI_clamp (by omega)]
    conv => whnf
    rw [mI_ne rfl, mI_ne rfl, h0]
    refine And.intro (vp_in_nI (by omega) (by decide)) ?_
    rw [nI_clamp (by omega)]
    conv => whnf
    rw [mI_ne rfl, mI_ne rfl, mI_ne rfl, h0]
    refine And.intro (vp_in_nI (by omega) (by decide)) ?_
    rw [nI_clamp (by omega)]
    conv => whnf
    rw [mI_ne rfl, mI_ne rfl, mI_ne rfl, mI_ne rfl, h0]
    refine And.intro (vp_in_nI (by omega) (by decide)) ?_
    rw [nI_clamp (by omega)]
    conv => whnf
    rw [mI_ne rfl, mI_ne rfl, mI_ne rfl, mI_ne rfl, mI_ne rfl, h0, nI_1]
    have w1 : ∀ k s, 57 ≤ k → k ≤ 61 → wSb q k q s = true := fun k s h1 h2 => by simp [wSb, nb_d, nl_d]; omega
    refine hK _ ((((((Un.rfl.pI (w1 57 c (by omega) (by omega))).pI (w1 58 c (by omega) (by omega))).pI (w1 59 c (by omega) (by omega))).pI (w1 60 c (by omega) (by omega))).pI (w1 61 c (by omega) (by omega))).pI (by simp [wSb, nb_d])) ⟨c + 1, by omega, mI_eq⟩ (fun ns e hns => ?_)
    rw [h0] at e
    have e : c = ns := (nI_eq (by omega) (by omega)).mp e
    subst e
    refine ⟨mI_eq, fun k i k1 k2 hi => ?_, ?_, ?_, ?_, ?_, ?_⟩
    · rw [mI_sI, if_neg (fun z => by omega), mI_sI, if_neg (fun z => hi z.2.2), mI_sI, if_neg (fun z => hi z.2.2), mI_sI, if_neg (fun z => hi z.2.2), mI_sI, if_neg (fun z => hi z.2.2), mI_sI, if_neg (fun z => hi z.2.2)]
    · rw [mI_ne rfl, mI_ne rfl, mI_ne rfl, mI_ne rfl, mI_ne rfl, mI_eq]
    · rw [mI_ne rfl, mI_ne rfl, mI_ne rfl, mI_ne rfl, mI_eq]
    · rw [mI_ne rfl, mI_ne rfl, mI_ne rfl, mI_eq]
    · rw [mI_ne rfl, mI_ne rfl, mI_eq]
    · rw [mI_ne rfl, mI_eq]
