/-! READ: the model's reader: expressions called; a literal -/
theorem c_MD_expression (Ω : Om) (M : Mem) (B : Nat → Nat) (n p cc : Nat) (s : Ps) (K : Ka) (hp : p < 4) (h : PsM M B n (.ok s)) (h12 : mI M 12 0 12 = 0) (h55 : mI M 12 0 55 = nI (520 * p + cc)) (hcc : cc ≤ s.1)
    (hK : ∀ M', Un (wEm p cc) M M' → PsM M' B n (eb (ex B n s.1) fun r => .ok (r.1, r.1 - 1, s.2.2)) → (∀ r, ex B n s.1 = .ok r → mI M' 12 0 12 = 0 ∧ CdM M' (520 * p + cc) r.2) → K none M') : CallS Ω true m_MD_expression [vR (some (12, 0))] M K := by
  have hsp := h.2.1.2
  have h5 := h.2.1.1.1
  refine call_go (hJL rfl) (Nat.le_of_ble_eq_true rfl) (go_wp ok_MD_expression [23] 250 _ _ _ _ _ _ ?_)
  conv => whnf
  have Q0 : Un w60 M (sI M 12 0 60 0) := Un.rfl.pI rfl
  have i12 : mI (sI M 12 0 60 0) 12 0 12 = nI 0 := (mI_st rfl).trans h12
  have W0 : WtM (sI M 12 0 60 0) [] := ⟨mI_eq, fun j hj => absurd hj (Nat.not_lt_zero _)⟩
  have C0 : CdM (sI M 12 0 60 0) (520 * p + cc) [] := ⟨(mI_st rfl).trans h55, trivial⟩
  have P0 := h.m60 Q0
  have e13 : mI (sI M 12 0 60 0) 12 0 13 = 0 := P0.2.2.2.1
  generalize sI M 12 0 60 0 = M0 at Q0 i12 W0 C0 P0 e13
  rw [i12]
  refine And.intro (fun q => absurd q (by decide)) (fun _ => ?_)
  refine And.intro (fun q => absurd e13 q) (fun _ => ?_)
  have es : (s : Ps) = (s.1, s.1 - 1, s.2.2) := by rw [← hsp]
  rw [es] at P0
  refine ex_loop (M0 := M0) (cc := cc) (lt := s.2.2) (tl := ex B n s.1) hp (fun M' f U' P' hf => ?_) (fun M' r U' P' hr j12 C' => ?_) (501 - s.1) 0 true [] [] s.1 0 M0 1 (by omega) (by decide) rfl (fun x hx => by cases hx) (by show cc + 0 + 0 ≤ s.1; omega) Un.rfl P0 i12 W0 C0 rfl
  · refine hK M' ((Q0.mono wEm_60).trans U') (by rw [hf]; exact P') (fun r hr => by rw [hf] at hr; cases hr)
  · refine hK M' ((Q0.mono wEm_60).trans U') (by rw [hr]; exact P') (fun r' hr' => by rw [hr] at hr'; cases hr'; exact ⟨j12, C'⟩)
theorem c_MD_expressionE (Ω : Om) (M : Mem) (B : Nat → Nat) (n : Nat) (f : Fa) (K : Ka) (h : PsM M B n (.error f)) (hK : ∀ M', Un w60 M M' → PsM M' B n (.error f) → K none M') : CallS Ω true m_MD_expression [vR (some (12, 0))] M K := by
  refine call_go (hJL rfl) (Nat.le_of_ble_eq_true rfl) (go_wp ok_MD_expression [] 250 _ _ _ _ _ _ ?_)
  conv => whnf
  have Q0 : Un w60 M (sI M 12 0 60 0) := Un.rfl.pI rfl
  have P0 := h.m60 Q0
  generalize sI M 12 0 60 0 = M0 at Q0 P0
  refine And.intro (fun q => absurd q (by decide)) (fun _ => ?_)
  rcases rm_fault P0 with ⟨f', e1, e2, e3⟩ | ⟨s', e1, e2, e3⟩
  · refine And.intro (fun _ => ?_) (fun z => absurd z e2)
    exact hK M0 Q0 P0
  · cases e1
theorem ex_len {B : Nat → Nat} {n a : Nat} {r : Nat × List Cd} (h : ex B n a = .ok r) : r.2.length + a ≤ r.1 := by
  obtain ⟨_, _, _, D, d1, d2⟩ := exS_wf h (by decide) (P := []) (C := []) (r0 := 0) rfl rfl (by show 0 + 0 ≤ a; omega)
  rw [d1]
  exact d2
theorem mk_11 : ∀ k, k < 222 → kdR k = true → ((11 ≤ mkK k ∧ mkK k ≤ 14) ↔ (4 ≤ k ∧ k ≤ 7)) ∧ (4 ≤ k → k ≤ 7 → mkK k = k + 7) := by decide +kernel
def wLt (p cc lc k i s : Nat) : Bool := wEm p cc k i s || ((Nat.ble 101 k && Nat.ble k 106) && Nat.beq s (200 * p + lc) || (Nat.beq k 12 && Nat.beq s 48))
theorem wLt_em {p cc lc : Nat} : ∀ k i s, wLt p cc lc k i s = false → wEm p cc k i s = false := fun k i s q => (Bool.or_eq_false_iff.mp q).1
theorem wLt_me {p cc lc : Nat} : ∀ k i s, wLt p cc lc k i s = false → wMe k i s = false := fun k i s q => wEm_me k i s (wLt_em k i s q)
theorem wLt_60 {p cc lc : Nat} : ∀ k i s, wLt p cc lc k i s = false → w60 k i s = false := fun k i s q => wEm_60 k i s (wLt_em k i s q)
theorem wEm_up {p cc d : Nat} : ∀ k i s, wEm p cc k i s = false → wEm p (cc + d) k i s = false := mono_of (fun k i s h => by
  rw [wEm_is] at h ⊢
  omega)
/-- behind a fault -/
theorem lt_89e {Ω : Om} {K : Ka} {M : Mem} {B : Nat → Nat} {n : Nat} {f : Fa} {a1 a2 a3 a4 : Int32} {a5 : Option Vl} (h : PsM M B n (.error f)) (hK : ∀ M', Un w60 M M' → PsM M' B n (.error f) → K none M') : GoS Ω true m_MD_literal K 89 [some (vR (some (12, 0))), some (vI a1), some (vI a2), some (vI a3), some (vI a4), a5] [] M 0 0 := by
  refine go_wp ok_MD_literal [] 250 _ _ _ _ _ _ ?_
  conv => whnf
  refine ⟨fun r M' => r = none ∧ Un w60 M M' ∧ PsM M' B n (.error f), c_MD_expressionE Ω M B n f _ h (fun M' a b => ⟨rfl, a, b⟩), trivial, ?_⟩
  rintro r M1 ⟨rfl, U1, P1⟩
  conv => whnf
  rcases rm_fault P1 with ⟨f', e1, e2, e3⟩ | ⟨s', e1, e2, e3⟩
  · refine And.intro (fun q => absurd q e3) (fun _ => ?_)
    exact hK M1 U1 P1
  · cases e1
def w62 (k i s : Nat) : Bool := wMe k i s || w60 k i s
theorem w62_me : ∀ k i s, w62 k i s = false → wMe k i s = false := fun k i s q => (Bool.or_eq_false_iff.mp q).1
theorem w62_60 : ∀ k i s, w62 k i s = false → w60 k i s = false := fun k i s q => (Bool.or_eq_false_iff.mp q).2
theorem wLt_62 {p cc lc : Nat} : ∀ k i s, wLt p cc lc k i s = false → w62 k i s = false := fun k i s q => by unfold w62; rw [wLt_me k i s q, wLt_60 k i s q]; rfl
theorem lt_85e {Ω : Om} {K : Ka} {M : Mem} {B : Nat → Nat} {n : Nat} {f : Fa} {a1 a2 a3 a4 : Int32} {a5 : Option Vl} (h : PsM M B n (.error f)) (hK : ∀ M', Un w62 M M' → PsM M' B n (.error f) → K none M') : GoS Ω true m_MD_literal K 85 [some (vR (some (12, 0))), some (vI a1), some (vI a2), some (vI a3), some (vI a4), a5] [] M 0 0 := by
  refine go_wp ok_MD_literal [89] 250 _ _ _ _ _ _ ?_
  conv => whnf
  refine ⟨fun r M' => r = none ∧ Un wMe M M' ∧ PsM M' B n (.error f), c_MD_goesOnE Ω M B n f _ h (fun M' a b => ⟨rfl, a, b⟩), trivial, ?_⟩
  rintro r M1 ⟨rfl, U1, P1⟩
  conv => whnf
  exact lt_89e P1 (fun M' U' P' => hK M' ((U1.mono w62_me).trans (U'.mono w62_60)) P')
theorem lt_37e {Ω : Om} {K : Ka} {M : Mem} {B : Nat → Nat} {n : Nat} {f : Fa} {a1 a2 a3 : Int32} {a4 a5 : Option Vl} (h : PsM M B n (.error f)) (hK : ∀ M', Un w62 M M' → PsM M' B n (.error f) → K none M') : GoS Ω true m_MD_literal K 37 [some (vR (some (12, 0))), some (vI a1), some (vI a2), some (vI a3), a4, a5] [] M 0 0 := by
  rcases rm_fault h with ⟨f', e1, e2, e3⟩ | ⟨s', e1, e2, e3⟩
  · refine go_wp ok_MD_literal [85] 250 _ _ _ _ _ _ ?_
    refine And.intro (fun q => absurd q e3) (fun _ => ?_)
    conv => whnf
    refine And.intro (fun _ => ?_) (fun z => absurd z e2)
    exact lt_85e h hK
  · cases e1
theorem lt_28e {Ω : Om} {K : Ka} {M : Mem} {B : Nat → Nat} {n : Nat} {f : Fa} {a1 a2 : Int32} {a3 a4 a5 : Option Vl} (h : PsM M B n (.error f)) (hK : ∀ M', Un w62 M M' → PsM M' B n (.error f) → K none M') : GoS Ω true m_MD_literal K 28 [some (vR (some (12, 0))), some (vI a1), some (vI a2), a3, a4, a5] [] M 0 0 := by
  refine go_wp ok_MD_literal [37] 250 _ _ _ _ _ _ ?_
  conv => whnf
  refine ⟨fun r M' => r = none ∧ Un w60 M M' ∧ PsM M' B n (.error f), c_MD_expressionE Ω M B n f _ h (fun M' a b => ⟨rfl, a, b⟩), trivial, ?_⟩
  rintro r M1 ⟨rfl, U1, P1⟩
  conv => whnf
  exact lt_37e P1 (fun M' U' P' => hK M' ((U1.mono w62_60).trans U') P')
