/-! READ: the model's reader: expressions, II -/
theorem rl_mem {r : Nat} : ∀ {P : List Nat} {x : Nat}, x ∈ rlP r P → x ∈ P := by
  intro P
  induction P with
  | nil => intro x h; exact h
  | cons p P ih =>
    intro x h
    rw [rlP] at h
    split at h
    · exact List.mem_cons_of_mem _ (ih h)
    · exact h
theorem rk_pos {k : Nat} : 0 < rk k ↔ (k = 43 ∨ k = 45 ∨ k = 42 ∨ k = 47) := by
  unfold rk
  split
  · omega
  · split <;> omega
theorem uS_ok {B : Nat → Nat} {n : Nat} {s : Ps} {r : Ps × Cd} (h : uS B n s = .ok r) : r.1 = (s.1 + 1, s.1, s.2.2) := by
  unfold uS at h
  split at h
  · obtain ⟨s1, h1, h2⟩ := eb_ok h
    obtain ⟨_, _, rfl⟩ := tkS_ok h1
    cases h2; rfl
  · obtain ⟨s1, h1, h2⟩ := eb_ok h
    obtain ⟨_, _, rfl⟩ := tkS_ok h1
    cases h2; rfl
theorem exS_u {B : Nat → Nat} {n f o a : Nat} {P : List Nat} {C : List Cd} {lt : Option (Nat × Nat)} (h : ¬ tkK B n a = 40) : exS B n (f + 1) o true P C a = eb (uS B n (a, a - 1, lt)) fun r => exS B n f o false P (C ++ [r.2]) r.1.1 := by
  rw [exS, if_pos rfl, if_neg h]
  unfold uS tkS
  by_cases c : 214 ≤ tkK B n a ∧ tkK B n a ≤ 221
  · rw [if_pos c, if_pos c, if_pos rfl]
    by_cases d : 500 ≤ a
    · rw [if_pos d, if_pos d]; rfl
    · rw [if_neg d, if_neg d]; rfl
  · rw [if_neg c, if_neg c]
    by_cases e : tkK B n a = 3
    · rw [if_pos e, if_pos e]
      by_cases d : 500 ≤ a
      · rw [if_pos d, if_pos d]; rfl
      · rw [if_neg d, if_neg d]; rfl
    · rw [if_neg e, if_neg e]; rfl
set_option maxHeartbeats 2000000 in
/-- behind an opened bracket -/
theorem ex_46 {Ω : Om} {K : Ka} {M : Mem} {B : Nat → Nat} {n p cc o : Nat} {e : Except Fa Ps} {P : List Nat} {C : List Cd} {a2 : Int32} (hk : ∀ s, e = .ok s → 2 ≤ tkK B n s.1) (h : PsM M B n e) (hl : P.length ≤ 63) (h12 : mI M 12 0 12 = nI o) (hW : WtM M P) (hC : CdM M (520 * p + cc) C)
    (hN : ∀ M', Un (wEm p cc) M M' → PsM M' B n (eb e gnS) → mI M' 12 0 12 = nI (o + 1) → WtM M' (40 :: P) → CdM M' (520 * p + cc) C → GoS Ω true m_MD_expression K 23 [some (vR (some (12, 0))), some (vI 0), some (vI a2)] [] M' 0 0) :
    GoS Ω true m_MD_expression K 46 [some (vR (some (12, 0))), some (vI 0), some (vI a2)] [] M 0 0 := by
  refine go_wp ok_MD_expression [23] 250 _ _ _ _ _ _ ?_
  conv => whnf
  rw [h12, nI_1]
  have Q0 : Un w60 M (sI M 12 0 12 (nI (o + 1))) := Un.rfl.pI rfl
  have z12 : mI (sI M 12 0 12 (nI (o + 1))) 12 0 12 = nI (o + 1) := mI_eq
  have W0 : WtM (sI M 12 0 12 (nI (o + 1))) P := hW.cg (mI_st rfl) (fun _ _ => mI_ne rfl)
  generalize sI M 12 0 12 (nI (o + 1)) = M0 at Q0 z12 W0
  refine ⟨fun r M' => r = none ∧ Un wMe M0 M' ∧ PsM M' B n (eb e gnS), c_MD_goesOn2 Ω M0 B n e _ hk (h.m60 Q0) (fun M' a b => ⟨rfl, a, b⟩), trivial, ?_⟩
  rintro r M1 ⟨rfl, U1, P1⟩
  conv => whnf
  have W1 := W0.me U1
  rw [W1.1]
  refine And.intro (vp_in_nI (by omega) (by decide)) ?_
  rw [nI_clamp (by omega)]
  have Q1 : Un w60 M1 (sI M1 109 0 P.length 6) := Un.rfl.pI rfl
  have e60 : mI (sI M1 109 0 P.length 6) 12 0 60 = nI P.length := (mI_ne rfl).trans W1.1
  conv => whnf
  rw [e60, nI_1]
  have Q2 : Un w60 M1 (sI (sI M1 109 0 P.length 6) 12 0 60 (nI (P.length + 1))) := Q1.pI rfl
  have W2 : WtM (sI (sI M1 109 0 P.length 6) 12 0 60 (nI (P.length + 1))) (40 :: P) := by
    refine ⟨mI_eq, fun j hj => ?_⟩
    rw [mI_ne rfl]
    cases j with
    | zero =>
      rw [show (40 :: P).length - 1 - 0 = P.length by rw [List.length_cons]; omega, mI_eq]
      rfl
    | succ j =>
      have hj : j < P.length := Nat.lt_of_succ_lt_succ hj
      rw [show (40 :: P).length - 1 - (j + 1) = P.length - 1 - j by rw [List.length_cons]; omega, mI_sI, if_neg (fun c => by have := c.2.2; omega)]
      exact W1.2 j hj
  have e12 : mI (sI (sI M1 109 0 P.length 6) 12 0 60 (nI (P.length + 1))) 12 0 12 = nI (o + 1) := (mI_st rfl).trans ((mI_ne rfl).trans ((U1.I rfl).trans z12))
  generalize sI (sI M1 109 0 P.length 6) 12 0 60 (nI (P.length + 1)) = M2 at Q2 W2 e12
  exact hN M2 ((Q0.mono wEm_60).trans ((U1.mono wEm_me).trans (Q2.mono wEm_60))) (P1.m60 Q2) e12 W2 (((hC.m60 Q0).me U1).m60 Q2)
set_option maxHeartbeats 8000000 in
theorem ex_loop {Ω : Om} {K : Ka} {M0 : Mem} {B : Nat → Nat} {n p cc : Nat} {lt : Option (Nat × Nat)} (hp : p < 4) {tl : Except Fa (Nat × List Cd)}
    (hE : ∀ M' f, Un (wEm p cc) M0 M' → PsM M' B n (.error f) → tl = .error f → K none M')
    (hO : ∀ M' r, Un (wEm p cc) M0 M' → PsM M' B n (.ok (r.1, r.1 - 1, lt)) → tl = .ok r → mI M' 12 0 12 = 0 → CdM M' (520 * p + cc) r.2 → K none M') :
    ∀ (f o : Nat) (due : Bool) (P : List Nat) (C : List Cd) (a r0 : Nat) (M : Mem) (a2 : Int32), 501 ≤ f + a → o ≤ 6 → prS P = some (o, r0) → (∀ x, x ∈ P → sgP x) → cc + C.length + noS P ≤ a → Un (wEm p cc) M0 M → PsM M B n (.ok (a, a - 1, lt)) → mI M 12 0 12 = nI o → WtM M P → CdM M (520 * p + cc) C → exS B n f o due P C a = tl →
      GoS Ω true m_MD_expression K (if due = true then 23 else 96) [some (vR (some (12, 0))), some (vI 0), some (vI a2)] [] M 0 0 := by
  intro f
  induction f with
  | zero =>
    intro o due P C a r0 M a2 hf ho hpr hs hcc hU h h12 hW hC htl
    have : a ≤ 500 := h.2.1.1.1
    omega
  | succ f ih =>
    intro o due P C a r0 M a2 hf ho hpr hs hcc hU h h12 hW hC htl
    have hr : rch B n a := h.2.1.1
    have h5 : a ≤ 500 := hr.1
    have hbd := pr_bd hpr
    cases due with
    | true =>
      show GoS Ω true m_MD_expression K 23 _ _ _ _ _
      by_cases c40 : tkK B n a = 40
      · rw [exS, if_pos rfl, if_pos c40] at htl
        refine go_wp ok_MD_expression [46] 250 _ _ _ _ _ _ ?_
        conv => whnf
        refine cl_use (fun K h' => c_MD_is Ω M B n 40 6 _ K rfl (by decide) rfl h h') trivial ?_
        rw [show isB B n 40 (.ok (a, a - 1, lt)) = true from decide_eq_true c40]
        refine And.intro (fun q => absurd q (by decide)) (fun _ => ?_)
        conv => whnf
        rw [h12]
        by_cases o6 : o = 6
        · rw [if_pos o6] at htl
          refine And.intro (fun q => absurd (show nI o = nI 6 by rw [o6]) q) (fun _ => ?_)
          conv => whnf
          refine ⟨fun r M' => r = none ∧ Un wMe M M' ∧ PsM M' B n (.error (2, a)), c_MD_fail Ω M B n 2 _ _ (Or.inr rfl) h (fun M' a b => ⟨rfl, a, b⟩), trivial, ?_⟩
          rintro r M1 ⟨rfl, U1, P1⟩
          conv => whnf
          refine ex_46 (p := p) (cc := cc) (e := .error (2, a)) (fun s hs => by cases hs) P1 (by omega) ((U1.I rfl).trans h12) (hW.me U1) (hC.me U1) (fun M2 U2 P2 _ _ _ => ?_)
          exact ex_23e P2 (fun M3 U3 P3 => hE M3 _ (hU.trans ((U1.mono wEm_me).trans (U2.trans (U3.mono wEm_me)))) P3 htl.symm)
        · rw [if_neg o6] at htl
          refine And.intro (fun _ => ?_) (fun q => absurd ((nI_eq (by omega) (by decide)).mp (show nI o = nI 6 from q)) o6)
          refine ex_46 (p := p) (cc := cc) (e := .ok (a, a - 1, lt)) (fun s hs => by cases hs; show 2 ≤ tkK B n a; omega) h (by omega) h12 hW hC (fun M2 U2 P2 h12' W2 C2 => ?_)
          rw [eb_k] at P2
          unfold gnS at P2
          by_cases c5 : 500 ≤ a
          · rw [if_pos c5] at P2 htl
            exact ex_23e P2 (fun M3 U3 P3 => hE M3 _ (hU.trans (U2.trans (U3.mono wEm_me))) P3 htl.symm)
          · rw [if_neg c5] at P2 htl
            have hq := pr_open hpr
            exact ih (o + 1) true (40 :: P) C (a + 1) 0 M2 a2 (by omega) (by omega) hq.1 (fun x hx => by
              rcases List.mem_cons.mp hx with e | e
              · exact Or.inl e
              · exact hs x e) (by rw [hq.2]; omega) (hU.trans U2) P2 h12' W2 C2 htl
      · rw [exS_u (lt := lt) c40] at htl
        refine go_wp ok_MD_expression [96] 250 _ _ _ _ _ _ ?_
        conv => whnf
        refine cl_use (fun K h' => c_MD_is Ω M B n 40 6 _ K rfl (by decide) rfl h h') trivial ?_
        rw [show isB B n 40 (.ok (a, a - 1, lt)) = false from decide_eq_false c40]
        refine And.intro (fun _ => ?_) (fun q => absurd rfl q)
        conv => whnf
        refine ⟨fun r M' => r = none ∧ Un (wUx (520 * p + cc) (520 * p + 520)) M M' ∧ PsM M' B n (eb (uS B n (a, a - 1, lt)) fun r => .ok r.1) ∧ (∀ r, uS B n (a, a - 1, lt) = .ok r → CdM M' (520 * p + cc) (C ++ [r.2])) ∧ WtM M' P ∧ mI M' 12 0 12 = nI o, c_MD_unit Ω M B n (520 * p + cc) (520 * p + 520) (a, a - 1, lt) C _ h hC (by omega) (by omega) (fun M' x x60 y z => ⟨rfl, x, y, z, hW.cg x60 (fun _ _ => x.I rfl), (x.I rfl).trans h12⟩), trivial, ?_⟩
        rintro r M1 ⟨rfl, U1, P1, C1, W1, i12⟩
        conv => whnf
        have hu := @uS_ok B n (a, a - 1, lt)
        generalize uS B n (a, a - 1, lt) = X at P1 C1 htl hu
        rcases rm_fault P1 with ⟨f', e1, e2, e3⟩ | ⟨s', e1, e2, e3⟩
        · refine And.intro (fun q => absurd q e3) (fun _ => ?_)
          cases X with
          | error f0 => exact hE M1 f0 (hU.trans (U1.mono wEm_ux)) P1 htl.symm
          | ok r => cases e1
        · refine And.intro (fun _ => ?_) (fun q => absurd (show mI M1 12 0 13 ≤ 0 by rw [e2]; decide) q)
          cases X with
          | error f0 => cases e1
          | ok r =>
            have er := hu rfl
            rw [eb_k] at P1 htl
            rw [er] at P1 htl
            exact ih o false P (C ++ [r.2]) (a + 1) r0 M1 a2 (by omega) ho hpr hs (by rw [List.length_append]; show cc + (C.length + 1) + noS P ≤ a + 1; omega) (hU.trans (U1.mono wEm_ux)) P1 i12 W1 (C1 r rfl) htl
    | false =>
      show GoS Ω true m_MD_expression K 96 _ _ _ _ _
      rw [exS, if_neg (by decide)] at htl
      obtain ⟨r1', q1, q2, q3⟩ := pr_rl (q := 1) (Nat.le_refl _) hpr
      have hh1 : 520 * p + cc + (C ++ rlC 1 P).length ≤ 520 * p + 520 := by rw [List.length_append]; omega
      -- the end
      have fin : ∀ (M1 : Mem) (a1 a2 : Option Vl), Un (wEm p cc) M M1 → PsM M1 B n (.ok (a, a - 1, lt)) → WtM M1 P → CdM M1 (520 * p + cc) C → mI M1 12 0 12 = nI 0 → (.ok (a, C ++ rlC 1 P) = tl) → GoS Ω true m_MD_expression K 204 [some (vR (some (12, 0))), a1, a2] [] M1 0 0 := fun M1 a1 a2 U1 P1 W1 C1 i12 ht => by
        refine ex_204 (hi := 520 * p + 520) (by omega) hs (by omega) W1 C1 hh1 (fun M2 U2 C2 => ?_)
        exact hO M2 _ (hU.trans (U1.trans (U2.mono wEm_cd))) (P1.cd U2) ht.symm ((U2.I rfl).trans i12) C2
      by_cases c41 : tkK B n a = 41
      · have hrk : ¬ 0 < rk (tkK B n a) := by rw [c41]; decide
        rw [if_neg hrk] at htl
        refine go_wp ok_MD_expression [96, 145] 250 _ _ _ _ _ _ ?_
        conv => whnf
        refine cl_use (fun K h' => c_MD_is Ω M B n 41 7 _ K rfl (by decide) rfl h h') trivial ?_
        rw [show isB B n 41 (.ok (a, a - 1, lt)) = true from decide_eq_true c41]
        refine And.intro (fun q => absurd q (by decide)) (fun _ => ?_)
        conv => whnf
        rw [h12]
        refine And.intro (fun c => ?_) (fun c => ?_)
        · have c : nI o ≤ nI 0 := c
          rw [nI_leI (by omega) (by omega)] at c
          have o0 : o = 0 := by omega
          rw [if_neg (by omega)] at htl
          refine ex_145n (o := o) (by omega) h (fun due hd => decide_eq_false (show ¬ tkK B n a = due by omega)) h12 (fun _ => ?_) (fun c => by omega)
          exact fin M _ _ Un.rfl h hW hC (by rw [h12, o0]) htl
        · have c : ¬ nI o ≤ nI 0 := c
          rw [nI_leI (by omega) (by omega)] at c
          rw [if_pos (by omega), if_pos c41] at htl
          conv => whnf
          refine ⟨fun r M' => r = none ∧ Un (wCd (520 * p + cc) (520 * p + 520)) M M' ∧ WtM M' (rlP 1 P) ∧ CdM M' (520 * p + cc) (C ++ rlC 1 P), c_MD_comesOut Ω M (520 * p + cc) (520 * p + cc) (520 * p + 520) false P C _ (Nat.le_refl _) (by omega) hs (by omega) hW hC hh1 (fun M' a b c => ⟨rfl, a, b, c⟩), trivial, ?_⟩
          rintro r M1 ⟨rfl, U1, W1, C1⟩
          have r0' : r1' = 0 := by omega
          subst r0'
          rcases pr_0 q1 with ⟨e1, e2⟩ | ⟨P', r2, e1, e2, e3⟩
          · omega
          have hs' : ∀ x, x ∈ P' → sgP x := fun x hx => hs x (rl_mem (r := 1) (by rw [e1]; exact List.mem_cons_of_mem _ hx))
          have en : noS (rlP 1 P) = noS P' := by rw [e1, noS, if_pos rfl]; omega
          rw [e1] at W1 htl
          have hbd' := pr_bd e3
          conv => whnf
          rw [W1.1, show nI (40 :: P').length - 1 = nI P'.length from pk_sub (b := 1) (by rw [List.length_cons]; omega)]
          have i12 : mI (sI M1 12 0 60 (nI P'.length)) 12 0 12 = nI o := (mI_st rfl).trans ((U1.I rfl).trans h12)
          have Q1 : Un w60 M1 (sI M1 12 0 60 (nI P'.length)) := Un.rfl.pI rfl
          have W2 : WtM (sI M1 12 0 60 (nI P'.length)) P' := ⟨mI_eq, fun j hj => by
            rw [mI_ne rfl]
            have := W1.2 (j + 1) (Nat.succ_lt_succ hj)
            rw [show (40 :: P').length - 1 - (j + 1) = P'.length - 1 - j by rw [List.length_cons]; omega] at this
            exact this⟩
          generalize sI M1 12 0 60 (nI P'.length) = M2 at i12 Q1 W2
          rw [i12, show nI o - 1 = nI (o - 1) from pk_sub (b := 1) (by omega)]
          have Q2 : Un w60 M2 (sI M2 12 0 12 (nI (o - 1))) := Un.rfl.pI rfl
          have j12 : mI (sI M2 12 0 12 (nI (o - 1))) 12 0 12 = nI (o - 1) := mI_eq
          have W3 : WtM (sI M2 12 0 12 (nI (o - 1))) P' := W2.cg (mI_st rfl) (fun _ _ => mI_ne rfl)
          generalize sI M2 12 0 12 (nI (o - 1)) = M3 at Q2 j12 W3
          have Q3 := Q1.trans Q2
          refine ⟨fun r M' => r = none ∧ Un wMe M3 M' ∧ PsM M' B n (gnS (a, a - 1, lt)), c_MD_goesOn Ω M3 B n (a, a - 1, lt) _ (show 2 ≤ tkK B n a by omega) ((h.cd U1).m60 Q3) (fun M' a b => ⟨rfl, a, b⟩), trivial, ?_⟩
          rintro r M4 ⟨rfl, U4, P4⟩
          conv => whnf
          have U14 : Un (wEm p cc) M0 M4 := hU.trans ((U1.mono wEm_cd).trans ((Q3.mono wEm_60).trans (U4.mono wEm_me)))
          have C4 : CdM M4 (520 * p + cc) (C ++ rlC 1 P) := (C1.m60 Q3).me U4
          unfold gnS at P4
          by_cases c5 : 500 ≤ a
          · rw [if_pos c5] at P4 htl
            obtain ⟨r3', y1, y2, y3⟩ := pr_rl (q := 1) (Nat.le_refl _) e3
            exact ex_96e (q := 520 * p + cc) (hi := 520 * p + 520) (o := o - 1) (by omega) P4 (by omega) hs' (by omega) (W3.me U4) C4 (by rw [List.length_append, List.length_append]; omega) ((U4.I rfl).trans j12) (fun M5 U5 P5 => hE M5 _ (U14.trans (U5.mono wEm_ux)) P5 htl.symm)
          · rw [if_neg c5] at P4 htl
            exact ih (o - 1) false P' (C ++ rlC 1 P) (a + 1) r2 M4 a2 (by omega) (by omega) e3 hs' (by rw [List.length_append]; omega) U14 P4 ((U4.I rfl).trans j12) (W3.me U4) C4 htl
      · refine go_wp ok_MD_expression [145] 250 _ _ _ _ _ _ ?_
        conv => whnf
        refine cl_use (fun K h' => c_MD_is Ω M B n 41 7 _ K rfl (by decide) rfl h h') trivial ?_
        rw [show isB B n 41 (.ok (a, a - 1, lt)) = false from decide_eq_false c41]
        refine And.intro (fun _ => ?_) (fun q => absurd rfl q)
        by_cases hrk : 0 < rk (tkK B n a)
        · rw [if_pos hrk] at htl
          have hk := rk_pos.mp hrk
          obtain ⟨r', y1, y2, y3⟩ := pr_rl (q := rk (tkK B n a)) hrk hpr
          have hq := pr_push y1 y2
          have hbd' := pr_bd y1
          refine ex_145s h hk ?_
          refine ex_181 (q := 520 * p + cc) (hi := 520 * p + 520) h hk (by omega) hs (by omega) (show (rlP (rk (tkK B n a)) P).length ≤ 63 by omega) hW hC (show 520 * p + cc + (C ++ rlC (rk (tkK B n a)) P).length ≤ 520 * p + 520 by rw [List.length_append]; omega) (fun M1 M2 M3 U1 Q2 U3 P3 W3 C3 i12 => ?_)
          have U03 : Un (wEm p cc) M0 M3 := hU.trans ((U1.mono wEm_cd).trans ((Q2.mono wEm_60).trans (U3.mono wEm_me)))
          refine go_wp ok_MD_expression [23] 250 _ _ _ _ _ _ ?_
          refine And.intro (fun q => absurd q (by decide)) (fun _ => ?_)
          unfold gnS at P3
          by_cases c5 : 500 ≤ a
          · rw [if_pos (show 500 ≤ (a, a - 1, lt).1 from c5)] at P3
            rw [if_pos c5] at htl
            rcases rm_fault P3 with ⟨f', e1, e2, e3⟩ | ⟨s', e1, e2, e3⟩
            · refine And.intro (fun _ => ?_) (fun z => absurd z e2)
              exact hE M3 _ U03 P3 htl.symm
            · cases e1
          · rw [if_neg (show ¬ 500 ≤ (a, a - 1, lt).1 from c5)] at P3
            rw [if_neg c5] at htl
            refine And.intro (fun z => absurd P3.2.2.2.1 z) (fun _ => ?_)
            exact ih o true (tkK B n a :: rlP (rk (tkK B n a)) P) (C ++ rlC (rk (tkK B n a)) P) (a + 1) (rk (tkK B n a)) M3 1 (by omega) ho hq.1 (fun x hx => by
              rcases List.mem_cons.mp hx with e | e
              · rw [e]
                rcases hk with z | z | z | z
                · exact Or.inr (Or.inr (Or.inl z))
                · exact Or.inr (Or.inr (Or.inr (Or.inl z)))
                · exact Or.inr (Or.inl z)
                · exact Or.inr (Or.inr (Or.inr (Or.inr z)))
              · exact hs x (rl_mem e)) (by rw [List.length_append, hq.2]; omega) U03 P3 (i12.trans h12) W3 C3 htl
        · rw [if_neg hrk] at htl
          refine ex_145n (o := o) (by omega) h (fun due hd => decide_eq_false (fun e => hrk (rk_pos.mpr (show tkK B n a = 43 ∨ tkK B n a = 45 ∨ tkK B n a = 42 ∨ tkK B n a = 47 by have e : tkK B n a = due := e; omega)))) h12 (fun o0 => ?_) (fun o1 M1 U1 P1 => ?_)
          · rw [if_neg (by omega)] at htl
            exact fin M _ _ Un.rfl h hW hC (by rw [h12, o0]) htl
          · rw [if_pos o1, if_neg c41] at htl
            refine ex_204 (hi := 520 * p + 520) (by omega) hs (by omega) (hW.me U1) (hC.me U1) hh1 (fun M2 U2 C2 => ?_)
            exact hE M2 _ (hU.trans ((U1.mono wEm_me).trans (U2.mono wEm_cd))) (P1.cd U2) htl.symm
