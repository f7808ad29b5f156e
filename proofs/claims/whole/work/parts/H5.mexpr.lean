/-! READ: the model's reader: expressions -/
def wEm (p cc k _i s : Nat) : Bool := (Nat.beq k 12 && (Nat.ble 11 s && Nat.ble s 16 || (Nat.beq s 55 || Nat.beq s 60))) || (Nat.beq k 109 || ((Nat.beq k 107 || Nat.beq k 108) && (Nat.ble (520 * p + cc) s && Nat.ble (s + 1) (520 * p + 520))))
theorem wEm_is {p cc k i s : Nat} : wEm p cc k i s = true ↔ (k = 12 ∧ ((11 ≤ s ∧ s ≤ 16) ∨ s = 55 ∨ s = 60)) ∨ k = 109 ∨ ((k = 107 ∨ k = 108) ∧ 520 * p + cc ≤ s ∧ s + 1 ≤ 520 * p + 520) := by
  simp [wEm, nb_d, nl_d]
theorem wEm_ux {p cc : Nat} : ∀ k i s, wEm p cc k i s = false → wUx (520 * p + cc) (520 * p + 520) k i s = false := mono_of (fun k i s h => by
  rw [wEm_is]
  simp [wUx, wMe, wCd, nb_d, nl_d] at h
  omega)
theorem wEm_cd {p cc : Nat} : ∀ k i s, wEm p cc k i s = false → wCd (520 * p + cc) (520 * p + 520) k i s = false := fun k i s h => wUx_cd k i s (wEm_ux k i s h)
theorem wEm_me {p cc : Nat} : ∀ k i s, wEm p cc k i s = false → wMe k i s = false := fun k i s h => wUx_me k i s (wEm_ux k i s h)
def w60 (k _i s : Nat) : Bool := (Nat.beq k 12 && (Nat.beq s 12 || Nat.beq s 60)) || Nat.beq k 109
theorem wEm_60 {p cc : Nat} : ∀ k i s, wEm p cc k i s = false → w60 k i s = false := mono_of (fun k i s h => by
  rw [wEm_is]
  simp [w60, nb_d] at h
  omega)
theorem PsM.m60 {M M' : Mem} {B : Nat → Nat} {n : Nat} {e : Except Fa Ps} (h : PsM M B n e) (hU : Un w60 M M') : PsM M' B n e := h.un hU (fun s h1 h2 _ => by simp [w60, nb_d]; omega) (fun k s h1 h2 => by simp [w60, nb_d]; omega)
theorem CdM.m60 {M M' : Mem} {q : Nat} {C : List Cd} (h : CdM M q C) (hU : Un w60 M M') : CdM M' q C := ⟨(hU.I rfl).trans h.1, h.2.un hU (fun _ => rfl) (fun _ => rfl)⟩
theorem ex_23e {Ω : Om} {K : Ka} {M : Mem} {B : Nat → Nat} {n : Nat} {f : Fa} {a1 a2 : Option Vl} (h : PsM M B n (.error f)) (hK : ∀ M', Un wMe M M' → PsM M' B n (.error f) → K none M') : GoS Ω true m_MD_expression K 23 [some (vR (some (12, 0))), a1, a2] [] M 0 0 := by
  refine go_wp ok_MD_expression [] 250 _ _ _ _ _ _ ?_
  conv => whnf
  refine cl_use (fun K h' => c_MD_is Ω M B n 40 6 _ K rfl (by decide) rfl h h') trivial ?_
  refine And.intro (fun _ => ?_) (fun c => absurd rfl c)
  conv => whnf
  refine ⟨fun r M' => r = none ∧ Un wMe M M' ∧ PsM M' B n (.error f), c_MD_unitE Ω M B n f _ h (fun M' a b => ⟨rfl, a, b⟩), trivial, ?_⟩
  rintro r M1 ⟨rfl, U1, P1⟩
  conv => whnf
  rcases rm_fault P1 with ⟨f', e1, e2, e3⟩ | ⟨s', e1, e2, e3⟩
  · refine And.intro (fun q => absurd q e3) (fun _ => ?_)
    exact hK M1 U1 P1
  · cases e1
theorem ex_204 {Ω : Om} {K : Ka} {M : Mem} {q hi : Nat} {P : List Nat} {C : List Cd} {a1 a2 : Option Vl} (hhi : hi ≤ 2600) (hs : ∀ p, p ∈ P → sgP p) (hl : P.length ≤ 64) (hW : WtM M P) (hC : CdM M q C) (hh : q + (C ++ rlC 1 P).length ≤ hi)
    (hK : ∀ M', Un (wCd q hi) M M' → CdM M' q (C ++ rlC 1 P) → K none M') : GoS Ω true m_MD_expression K 204 [some (vR (some (12, 0))), a1, a2] [] M 0 0 := by
  refine go_wp ok_MD_expression [] 250 _ _ _ _ _ _ ?_
  conv => whnf
  refine ⟨fun r M' => r = none ∧ Un (wCd q hi) M M' ∧ CdM M' q (C ++ rlC 1 P), c_MD_comesOut Ω M q q hi false P C _ (Nat.le_refl _) hhi hs hl hW hC hh (fun M' a b c => ⟨rfl, a, c⟩), trivial, ?_⟩
  rintro r M1 ⟨rfl, U1, C1⟩
  conv => whnf
  exact hK M1 U1 C1
theorem ex_145n {Ω : Om} {K : Ka} {M : Mem} {B : Nat → Nat} {n o : Nat} {e : Except Fa Ps} {a2 : Int32} (ho : o < 100) (h : PsM M B n e) (hb : ∀ due, due = 43 ∨ due = 45 ∨ due = 42 ∨ due = 47 → isB B n due e = false) (h12 : mI M 12 0 12 = nI o)
    (hz : o = 0 → GoS Ω true m_MD_expression K 204 [some (vR (some (12, 0))), some (vI 0), some (vI 0)] [] M 0 0)
    (hp : 0 < o → ∀ M', Un wMe M M' → PsM M' B n (eb e fun s => .error (1, s.1)) → GoS Ω true m_MD_expression K 204 [some (vR (some (12, 0))), some (vI 0), some (vI 0)] [] M' 0 0) :
    GoS Ω true m_MD_expression K 145 [some (vR (some (12, 0))), some (vI 0), some (vI a2)] [] M 0 0 := by
  refine go_wp ok_MD_expression [204] 250 _ _ _ _ _ _ ?_
  conv => whnf
  refine cl_use (fun K h' => c_MD_is Ω M B n 43 8 _ K rfl (by decide) rfl h h') trivial ?_
  rw [hb 43 (by decide)]
  refine And.intro (fun q => absurd rfl q) (fun _ => ?_)
  conv => whnf
  refine cl_use (fun K h' => c_MD_is Ω M B n 45 9 _ K rfl (by decide) rfl h h') trivial ?_
  rw [hb 45 (by decide)]
  refine And.intro (fun q => absurd rfl q) (fun _ => ?_)
  conv => whnf
  refine cl_use (fun K h' => c_MD_is Ω M B n 42 10 _ K rfl (by decide) rfl h h') trivial ?_
  rw [hb 42 (by decide)]
  refine And.intro (fun q => absurd rfl q) (fun _ => ?_)
  conv => whnf
  refine cl_use (fun K h' => c_MD_is Ω M B n 47 15 _ K rfl (by decide) rfl h h') trivial ?_
  rw [hb 47 (by decide)]
  refine And.intro (fun _ => ?_) (fun q => absurd rfl q)
  conv => whnf
  refine And.intro (fun q => absurd rfl q) (fun _ => ?_)
  conv => whnf
  rw [h12]
  refine And.intro (fun c => ?_) (fun c => ?_)
  · have c : nI o ≤ nI 0 := c
    rw [nI_leI (by omega) (by omega)] at c
    exact hz (by omega)
  · have c : ¬ nI o ≤ nI 0 := c
    rw [nI_leI (by omega) (by omega)] at c
    conv => whnf
    refine ⟨fun r M' => r = none ∧ Un wMe M M' ∧ PsM M' B n (eb e fun s => .error (1, s.1)), c_MD_fail Ω M B n 1 e _ (Or.inl rfl) h (fun M' a b => ⟨rfl, a, b⟩), trivial, ?_⟩
    rintro r M1 ⟨rfl, U1, P1⟩
    conv => whnf
    exact hp (by omega) M1 U1 P1
theorem ex_96e {Ω : Om} {K : Ka} {M : Mem} {B : Nat → Nat} {n q hi o : Nat} {f : Fa} {P : List Nat} {C : List Cd} {a2 : Int32} (ho : o < 100) (h : PsM M B n (.error f)) (hhi : hi ≤ 2600) (hs : ∀ p, p ∈ P → sgP p) (hl : P.length ≤ 64) (hW : WtM M P) (hC : CdM M q C) (hh : q + (C ++ rlC 1 P).length ≤ hi) (h12 : mI M 12 0 12 = nI o)
    (hK : ∀ M', Un (wUx q hi) M M' → PsM M' B n (.error f) → K none M') : GoS Ω true m_MD_expression K 96 [some (vR (some (12, 0))), some (vI 0), some (vI a2)] [] M 0 0 := by
  refine go_wp ok_MD_expression [145] 250 _ _ _ _ _ _ ?_
  conv => whnf
  refine cl_use (fun K h' => c_MD_is Ω M B n 41 7 _ K rfl (by decide) rfl h h') trivial ?_
  refine And.intro (fun _ => ?_) (fun c => absurd rfl c)
  refine ex_145n ho h (fun _ _ => rfl) h12 (fun _ => ?_) (fun _ M1 U1 P1 => ?_)
  · exact ex_204 hhi hs hl hW hC hh (fun M' U' _ => hK M' (U'.mono wUx_cd) (h.cd U'))
  · exact ex_204 hhi hs hl (hW.me U1) (hC.me U1) hh (fun M' U' _ => hK M' ((U1.mono wUx_me).trans (U'.mono wUx_cd)) (P1.cd U'))
/-- the sign's place -/
theorem ex_145s {Ω : Om} {K : Ka} {M : Mem} {B : Nat → Nat} {n : Nat} {s : Ps} {a1 a2 : Option Vl} (h : PsM M B n (.ok s)) (hk : tkK B n s.1 = 43 ∨ tkK B n s.1 = 45 ∨ tkK B n s.1 = 42 ∨ tkK B n s.1 = 47)
    (hN : GoS Ω true m_MD_expression K 181 [some (vR (some (12, 0))), a1, a2] [] M 0 0) : GoS Ω true m_MD_expression K 145 [some (vR (some (12, 0))), a1, a2] [] M 0 0 := by
  refine go_wp ok_MD_expression [181] 250 _ _ _ _ _ _ ?_
  conv => whnf
  refine cl_use (fun K h' => c_MD_is Ω M B n 43 8 _ K rfl (by decide) rfl h h') trivial ?_
  refine br_bn (fun _ => hN) (fun c5 => ?_)
  conv => whnf
  refine cl_use (fun K h' => c_MD_is Ω M B n 45 9 _ K rfl (by decide) rfl h h') trivial ?_
  refine br_bn (fun _ => hN) (fun c6 => ?_)
  conv => whnf
  refine cl_use (fun K h' => c_MD_is Ω M B n 42 10 _ K rfl (by decide) rfl h h') trivial ?_
  refine br_bn (fun _ => hN) (fun c7 => ?_)
  conv => whnf
  refine cl_use (fun K h' => c_MD_is Ω M B n 47 15 _ K rfl (by decide) rfl h h') trivial ?_
  refine br_bz (fun c8 => ?_) (fun _ => hN)
  have c5 : ¬ tkK B n s.1 = 43 := of_decide_eq_false c5
  have c6 : ¬ tkK B n s.1 = 45 := of_decide_eq_false c6
  have c7 : ¬ tkK B n s.1 = 42 := of_decide_eq_false c7
  have c8 : ¬ tkK B n s.1 = 47 := of_decide_eq_false c8
  omega
set_option maxHeartbeats 2000000 in
/-- a sign that waits from now on -/
theorem ex_181 {Ω : Om} {K : Ka} {M : Mem} {B : Nat → Nat} {n q hi : Nat} {s : Ps} {P : List Nat} {C : List Cd} {a2 : Int32} (h : PsM M B n (.ok s)) (hk : tkK B n s.1 = 43 ∨ tkK B n s.1 = 45 ∨ tkK B n s.1 = 42 ∨ tkK B n s.1 = 47) (hhi : hi ≤ 2600) (hs : ∀ p, p ∈ P → sgP p) (hl : P.length ≤ 63) (hl2 : (rlP (rk (tkK B n s.1)) P).length ≤ 63) (hW : WtM M P) (hC : CdM M q C) (hh : q + (C ++ rlC (rk (tkK B n s.1)) P).length ≤ hi)
    (hN : ∀ M1 M2 M3, Un (wCd q hi) M M1 → Un w60 M1 M2 → Un wMe M2 M3 → PsM M3 B n (gnS s) → WtM M3 (tkK B n s.1 :: rlP (rk (tkK B n s.1)) P) → CdM M3 q (C ++ rlC (rk (tkK B n s.1)) P) → mI M3 12 0 12 = mI M 12 0 12 → GoS Ω true m_MD_expression K 12 [some (vR (some (12, 0))), some (vI 0), some (vI 1)] [] M3 0 0) :
    GoS Ω true m_MD_expression K 181 [some (vR (some (12, 0))), some (vI 0), some (vI a2)] [] M 0 0 := by
  have hr := h.2.1.1
  have h5 := hr.1
  have at234 : ∀ z : Bool, (if z = true then 2 else 1) = rk (tkK B n s.1) → GoS Ω true m_MD_expression K 234 [some (vR (some (12, 0))), some (vI 0), some (vI 1)] [vI (bI z), vR (some (12, 0))] M 0 0 := fun z hz => by
    refine go_wp ok_MD_expression [12] 250 _ _ _ _ _ _ ?_
    conv => whnf
    rw [← hz] at hh hl2 hN
    refine ⟨fun r M' => r = none ∧ Un (wCd q hi) M M' ∧ WtM M' (rlP (if z = true then 2 else 1) P) ∧ CdM M' q (C ++ rlC (if z = true then 2 else 1) P), c_MD_comesOut Ω M q q hi z P C _ (Nat.le_refl _) hhi hs (by omega) hW hC hh (fun M' a b c => ⟨rfl, a, b, c⟩), trivial, ?_⟩
    rintro r M1 ⟨rfl, U1, W1, C1⟩
    conv => whnf
    have P1 := h.cd U1
    rw [P1.2.2.1]
    refine And.intro (vp_in_nI (by omega) (by decide)) ?_
    rw [nI_clamp (by omega), (P1.1 s.1 hr).1]
    conv => whnf
    generalize rlP (if z = true then 2 else 1) P = P' at W1 hl2 hN
    rw [W1.1]
    refine And.intro (vp_in_nI (by omega) (by decide)) ?_
    rw [nI_clamp (by omega)]
    have Q1 : Un w60 M1 (sI M1 109 0 P'.length (nI (mkK (tkK B n s.1)))) := Un.rfl.pI rfl
    have e60 : mI (sI M1 109 0 P'.length (nI (mkK (tkK B n s.1)))) 12 0 60 = nI P'.length := (mI_ne rfl).trans W1.1
    conv => whnf
    rw [e60, nI_1]
    have Q2 : Un w60 M1 (sI (sI M1 109 0 P'.length (nI (mkK (tkK B n s.1)))) 12 0 60 (nI (P'.length + 1))) := Q1.pI rfl
    have W2 : WtM (sI (sI M1 109 0 P'.length (nI (mkK (tkK B n s.1)))) 12 0 60 (nI (P'.length + 1))) (tkK B n s.1 :: P') := by
      refine ⟨mI_eq, fun j hj => ?_⟩
      rw [mI_ne rfl]
      cases j with
      | zero =>
        rw [show (tkK B n s.1 :: P').length - 1 - 0 = P'.length by rw [List.length_cons]; omega, mI_eq]
        rfl
      | succ j =>
        have hj : j < P'.length := Nat.lt_of_succ_lt_succ hj
        rw [show (tkK B n s.1 :: P').length - 1 - (j + 1) = P'.length - 1 - j by rw [List.length_cons]; omega, mI_sI, if_neg (fun c => by have := c.2.2; omega)]
        exact W1.2 j hj
    have e12 : mI (sI (sI M1 109 0 P'.length (nI (mkK (tkK B n s.1)))) 12 0 60 (nI (P'.length + 1))) 12 0 12 = mI M 12 0 12 := (mI_st rfl).trans ((mI_ne rfl).trans (U1.I rfl))
    generalize sI (sI M1 109 0 P'.length (nI (mkK (tkK B n s.1)))) 12 0 60 (nI (P'.length + 1)) = M2 at Q2 W2 e12
    refine ⟨fun r M' => r = none ∧ Un wMe M2 M' ∧ PsM M' B n (gnS s), c_MD_goesOn Ω M2 B n s _ (by omega) (P1.m60 Q2) (fun M' a b => ⟨rfl, a, b⟩), trivial, ?_⟩
    rintro r M3 ⟨rfl, U3, P3⟩
    conv => whnf
    exact hN M1 M2 M3 U1 Q2 U3 P3 (W2.me U3) ((C1.m60 Q2).me U3) ((U3.I rfl).trans e12)
  refine go_wp ok_MD_expression [234] 250 _ _ _ _ _ _ ?_
  refine And.intro (fun _ => ?_) (fun c => absurd c (by decide))
  conv => whnf
  refine cl_use (fun K h' => c_MD_is Ω M B n 42 10 _ K rfl (by decide) rfl h h') trivial ?_
  refine br_bn (fun c => ?_) (fun c => ?_)
  · have c : tkK B n s.1 = 42 := of_decide_eq_true c
    conv => whnf
    exact at234 true (by rw [c]; rfl)
  · have c : ¬ tkK B n s.1 = 42 := of_decide_eq_false c
    conv => whnf
    refine cl_use (fun K h' => c_MD_is Ω M B n 47 15 _ K rfl (by decide) rfl h h') trivial ?_
    refine br_bz (fun d => ?_) (fun d => ?_)
    · have d : ¬ tkK B n s.1 = 47 := of_decide_eq_false d
      conv => whnf
      refine at234 false ?_
      rcases hk with e | e | e | e
      · rw [e]; rfl
      · rw [e]; rfl
      · exact absurd e c
      · exact absurd e d
    · have d : tkK B n s.1 = 47 := of_decide_eq_true d
      conv => whnf
      exact at234 true (by rw [d]; rfl)
