/-! READ: the model's reader: a literal, II -/
set_option maxHeartbeats 2000000 in
theorem mnt_loop {Ω : Om} {K : Ka} {M0 : Mem} {B : Nat → Nat} {n : Nat} {lt : Option (Nat × Nat)} {or_ : Bool} {tl : Except Fa (Nat × Bool)}
    (hE : ∀ M' f b', Un wMe M0 M' → PsM M' B n (.error f) → tl = .error f → GoS Ω true m_MD_literal K 28 [some (vR (some (12, 0))), some (vI (bI or_)), some (vI (bI b')), none, none, none] [] M' 0 0)
    (hN : ∀ M' a' b', Un wMe M0 M' → PsM M' B n (.ok (a', a' - 1, lt)) → tl = .ok (a', b') → GoS Ω true m_MD_literal K 28 [some (vR (some (12, 0))), some (vI (bI or_)), some (vI (bI b')), none, none, none] [] M' 0 0) :
    ∀ (f : Nat) (b : Bool) (a : Nat) (M : Mem), 501 ≤ f + a → Un wMe M0 M → PsM M B n (.ok (a, a - 1, lt)) → ntS B n f b a = tl →
      GoS Ω true m_MD_literal K 2 [some (vR (some (12, 0))), some (vI (bI or_)), some (vI (bI b)), none, none, none] [] M 0 0 := by
  intro f
  induction f with
  | zero =>
    intro b a M hf hU h htl
    have : a ≤ 500 := h.2.1.1.1
    omega
  | succ f ih =>
    intro b a M hf hU h htl
    rw [ntS] at htl
    by_cases c : tkK B n a = 213
    · rw [if_pos c] at htl
      have nx : GoS Ω true m_MD_literal K 20 [some (vR (some (12, 0))), some (vI (bI or_)), some (vI (bI b)), none, none, none] [vI (bI (!b))] M 0 0 := by
        refine go_wp ok_MD_literal [2] 250 _ _ _ _ _ _ ?_
        conv => whnf
        refine ⟨fun r M' => r = none ∧ Un wMe M M' ∧ PsM M' B n (gnS (a, a - 1, lt)), c_MD_goesOn Ω M B n (a, a - 1, lt) _ (show 2 ≤ tkK B n a by omega) h (fun M' a b => ⟨rfl, a, b⟩), trivial, ?_⟩
        rintro r M1 ⟨rfl, U1, P1⟩
        conv => whnf
        unfold gnS at P1
        by_cases c5 : 500 ≤ a
        · rw [if_pos (show 500 ≤ (a, a - 1, lt).1 from c5)] at P1
          rw [if_pos c5] at htl
          have g := hE M1 _ (!b) (hU.trans U1) P1 htl.symm
          refine go_wp ok_MD_literal [28] 250 _ _ _ _ _ _ ?_
          conv => whnf
          refine cl_use (fun K h' => c_MD_is Ω M1 B n 213 33 _ K rfl (by decide) rfl P1 h') trivial ?_
          exact And.intro (fun _ => g) (fun q => absurd rfl q)
        · rw [if_neg (show ¬ 500 ≤ (a, a - 1, lt).1 from c5)] at P1
          rw [if_neg c5] at htl
          exact ih (!b) (a + 1) M1 (by omega) (hU.trans U1) P1 htl
      refine go_wp ok_MD_literal [20] 250 _ _ _ _ _ _ ?_
      conv => whnf
      refine cl_use (fun K h' => c_MD_is Ω M B n 213 33 _ K rfl (by decide) rfl h h') trivial ?_
      rw [show isB B n 213 (.ok (a, a - 1, lt)) = true from decide_eq_true c]
      refine And.intro (fun q => absurd q (by decide)) (fun _ => ?_)
      conv => whnf
      cases b with
      | false =>
        refine And.intro (fun q => absurd rfl q) (fun _ => ?_)
        conv => whnf
        exact nx
      | true =>
        refine And.intro (fun _ => ?_) (fun q => absurd q (by decide))
        conv => whnf
        exact nx
    · rw [if_neg c] at htl
      refine go_wp ok_MD_literal [28] 250 _ _ _ _ _ _ ?_
      conv => whnf
      refine cl_use (fun K h' => c_MD_is Ω M B n 213 33 _ K rfl (by decide) rfl h h') trivial ?_
      rw [show isB B n 213 (.ok (a, a - 1, lt)) = false from decide_eq_false c]
      exact And.intro (fun _ => hN M a b hU h htl.symm) (fun q => absurd rfl q)
set_option maxHeartbeats 4000000 in
/-- the second side, and the literal is kept -/
theorem lt_89 {Ω : Om} {K : Ka} {M : Mem} {B : Nat → Nat} {n p cc lc a hw : Nat} {lt : Option (Nat × Nat)} {or_ not_ : Bool} {L : List Cd} {a5 : Option Vl} (hp : p < 4) (hlc : lc < 200) (h : PsM M B n (.ok (a, a - 1, lt))) (h12 : mI M 12 0 12 = 0) (hC : CdM M (520 * p + cc) L) (hcc : cc + L.length ≤ a) (h48 : mI M 12 0 48 = nI (200 * p + lc))
    (hE : ∀ M' f, Un (wLt p cc lc) M M' → PsM M' B n (.error f) → ex B n a = .error f → K none M')
    (hO : ∀ M' r, Un (wLt p cc lc) M M' → PsM M' B n (.ok (r.1, r.1 - 1, lt)) → ex B n a = .ok r → mI M' 12 0 12 = 0 → mI M' 12 0 48 = nI (200 * p + (lc + 1)) → mI M' 12 0 55 = nI (520 * p + (cc + L.length + r.2.length)) → LitU M' p (cc + L.length + r.2.length) (200 * p + lc) (hw, not_, or_, L, r.2) → cc + L.length + r.2.length ≤ r.1 → K none M') :
    GoS Ω true m_MD_literal K 89 [some (vR (some (12, 0))), some (vI (bI or_)), some (vI (bI not_)), some (vI (nI (520 * p + cc))), some (vI (nI hw)), a5] [] M 0 0 := by
  have h55 : mI M 12 0 55 = nI (520 * p + (cc + L.length)) := by rw [hC.1, Nat.add_assoc]
  refine go_wp ok_MD_literal [] 250 _ _ _ _ _ _ ?_
  conv => whnf
  rw [h55]
  refine ⟨fun r M' => r = none ∧ Un (wEm p (cc + L.length)) M M' ∧ PsM M' B n (eb (ex B n a) fun r => .ok (r.1, r.1 - 1, lt)) ∧ (∀ r, ex B n a = .ok r → mI M' 12 0 12 = 0 ∧ CdM M' (520 * p + (cc + L.length)) r.2), c_MD_expression Ω M B n p (cc + L.length) (a, a - 1, lt) _ hp h h12 h55 hcc (fun M' a b c => ⟨rfl, a, b, c⟩), trivial, ?_⟩
  rintro r M1 ⟨rfl, U1, P1, G1⟩
  conv => whnf
  have V1 : Un (wLt p cc lc) M M1 := U1.mono (fun k i s q => wEm_up k i s (wLt_em k i s q))
  have hlen := @ex_len B n a
  rcases rm_fault P1 with ⟨f', e1, e2, e3⟩ | ⟨s', e1, e2, e3⟩
  · refine And.intro (fun q => absurd q e3) (fun _ => ?_)
    cases hX : ex B n a with
    | error f0 =>
      rw [hX] at P1
      exact hE M1 f0 V1 P1 hX
    | ok r =>
      rw [hX] at e1
      cases e1
  refine And.intro (fun _ => ?_) (fun q => absurd (show mI M1 12 0 13 ≤ 0 by rw [e2]; decide) q)
  obtain ⟨r, hX, e5⟩ := eb_ok e1
  cases e5
  rw [hX, eb_k] at P1
  obtain ⟨j12, C1⟩ := G1 r hX
  have hl := hlen hX
  have h5 : r.1 ≤ 500 := P1.2.1.1.1
  have g48 : mI M1 12 0 48 = nI (200 * p + lc) := (U1.I (by rw [Bool.eq_false_iff]; intro z; rw [wEm_is] at z; omega)).trans h48
  have S1 : SpM M1 (520 * p + cc) L := hC.2.cg (hi := 520 * p + cc + L.length) (fun s hs => ⟨U1.I (by rw [Bool.eq_false_iff]; intro z; rw [wEm_is] at z; omega), U1.I (by rw [Bool.eq_false_iff]; intro z; rw [wEm_is] at z; omega)⟩) (Nat.le_refl _)
  have g55 : mI M1 12 0 55 = nI (520 * p + (cc + L.length + r.2.length)) := by rw [C1.1]; congr 1; omega
  conv => whnf
  rw [g48]
  refine And.intro (vp_in_nI (by omega) (by decide)) ?_
  rw [nI_clamp (by omega)]
  have hw1 : ∀ {k0 : Nat}, 101 ≤ k0 → k0 ≤ 106 → ∀ k i s, wLt p cc lc k i s = false → w1 k0 (200 * p + lc) k i s = false := fun {k0} h1 h2 => mono_of (fun k i s g => by
    have : k = k0 ∧ s = 200 * p + lc := by simpa [w1, nb_d] using g
    have e1 : Nat.ble 101 k = true := Nat.ble_eq.mpr (by omega)
    have e2 : Nat.ble k 106 = true := Nat.ble_eq.mpr (by omega)
    have e3 : Nat.beq s (200 * p + lc) = true := by rw [nb_d, decide_eq_true this.2]
    unfold wLt
    rw [e1, e2, e3]
    simp)
  have Q1 : Un (w1 101 (200 * p + lc)) M1 (sI M1 101 0 (200 * p + lc) (nI hw)) := w1_I
  have z1 : mI (sI M1 101 0 (200 * p + lc) (nI hw)) 101 0 (200 * p + lc) = nI hw := mI_eq
  generalize sI M1 101 0 (200 * p + lc) (nI hw) = M2 at Q1 z1
  conv => whnf
  rw [(Q1.I rfl).trans g48]
  refine And.intro (vp_in_nI (by omega) (by decide)) (And.intro (bI_01 _) ?_)
  rw [nI_clamp (by omega)]
  have Q2 : Un (w1 102 (200 * p + lc)) M2 (sI M2 102 0 (200 * p + lc) (bI not_)) := w1_I
  have z2 : mI (sI M2 102 0 (200 * p + lc) (bI not_)) 102 0 (200 * p + lc) = bI not_ := mI_eq
  generalize sI M2 102 0 (200 * p + lc) (bI not_) = M3 at Q2 z2
  conv => whnf
  rw [(Q2.I rfl).trans ((Q1.I rfl).trans g48)]
  refine And.intro (vp_in_nI (by omega) (by decide)) (And.intro (bI_01 _) ?_)
  rw [nI_clamp (by omega)]
  have Q3 : Un (w1 103 (200 * p + lc)) M3 (sI M3 103 0 (200 * p + lc) (bI or_)) := w1_I
  have z3 : mI (sI M3 103 0 (200 * p + lc) (bI or_)) 103 0 (200 * p + lc) = bI or_ := mI_eq
  generalize sI M3 103 0 (200 * p + lc) (bI or_) = M4 at Q3 z3
  conv => whnf
  rw [(Q3.I rfl).trans ((Q2.I rfl).trans ((Q1.I rfl).trans g48))]
  refine And.intro (vp_in_nI (by omega) (by decide)) ?_
  rw [nI_clamp (by omega)]
  have Q4 : Un (w1 104 (200 * p + lc)) M4 (sI M4 104 0 (200 * p + lc) (nI (520 * p + cc))) := w1_I
  have z4 : mI (sI M4 104 0 (200 * p + lc) (nI (520 * p + cc))) 104 0 (200 * p + lc) = nI (520 * p + cc) := mI_eq
  generalize sI M4 104 0 (200 * p + lc) (nI (520 * p + cc)) = M5 at Q4 z4
  conv => whnf
  rw [(Q4.I rfl).trans ((Q3.I rfl).trans ((Q2.I rfl).trans ((Q1.I rfl).trans g48)))]
  refine And.intro (vp_in_nI (by omega) (by decide)) ?_
  rw [nI_clamp (by omega)]
  have Q5 : Un (w1 105 (200 * p + lc)) M5 (sI M5 105 0 (200 * p + lc) (nI (520 * p + (cc + L.length)))) := w1_I
  have z5 : mI (sI M5 105 0 (200 * p + lc) (nI (520 * p + (cc + L.length)))) 105 0 (200 * p + lc) = nI (520 * p + (cc + L.length)) := mI_eq
  generalize sI M5 105 0 (200 * p + lc) (nI (520 * p + (cc + L.length))) = M6 at Q5 z5
  conv => whnf
  rw [(Q5.I rfl).trans ((Q4.I rfl).trans ((Q3.I rfl).trans ((Q2.I rfl).trans ((Q1.I rfl).trans g48)))), (Q5.I rfl).trans ((Q4.I rfl).trans ((Q3.I rfl).trans ((Q2.I rfl).trans ((Q1.I rfl).trans g55))))]
  refine And.intro (vp_in_nI (by omega) (by decide)) ?_
  rw [nI_clamp (by omega)]
  have Q6 : Un (w1 106 (200 * p + lc)) M6 (sI M6 106 0 (200 * p + lc) (nI (520 * p + (cc + L.length + r.2.length)))) := w1_I
  have z6 : mI (sI M6 106 0 (200 * p + lc) (nI (520 * p + (cc + L.length + r.2.length)))) 106 0 (200 * p + lc) = nI (520 * p + (cc + L.length + r.2.length)) := mI_eq
  generalize sI M6 106 0 (200 * p + lc) (nI (520 * p + (cc + L.length + r.2.length))) = M7 at Q6 z6
  conv => whnf
  rw [(Q6.I rfl).trans ((Q5.I rfl).trans ((Q4.I rfl).trans ((Q3.I rfl).trans ((Q2.I rfl).trans ((Q1.I rfl).trans g48))))), nI_1]
  have Q7 : Un (w1 12 48) M7 (sI M7 12 0 48 (nI (200 * p + lc + 1))) := w1_I
  have z7 : mI (sI M7 12 0 48 (nI (200 * p + lc + 1))) 12 0 48 = nI (200 * p + (lc + 1)) := by rw [mI_eq, Nat.add_assoc]
  generalize sI M7 12 0 48 (nI (200 * p + lc + 1)) = M8 at Q7 z7
  have hw48 : ∀ k i s, wLt p cc lc k i s = false → w1 12 48 k i s = false := mono_of (fun k i s g => by
    have : k = 12 ∧ s = 48 := by simpa [w1, nb_d] using g
    rw [this.1, this.2]
    unfold wLt
    simp)
  have V8 : Un (wLt p cc lc) M M8 := V1.trans ((Q1.mono (hw1 (by decide) (by decide))).trans ((Q2.mono (hw1 (by decide) (by decide))).trans ((Q3.mono (hw1 (by decide) (by decide))).trans ((Q4.mono (hw1 (by decide) (by decide))).trans ((Q5.mono (hw1 (by decide) (by decide))).trans ((Q6.mono (hw1 (by decide) (by decide))).trans (Q7.mono hw48)))))))
  have P7 := (((((P1.c1 (by decide) Q1).c1 (by decide) Q2).c1 (by decide) Q3).c1 (by decide) Q4).c1 (by decide) Q5).c1 (by decide) Q6
  have P8 : PsM M8 B n (.ok (r.1, r.1 - 1, lt)) := P7.un Q7 (fun s h1 h2 _ => by simp [w1, nb_d]; omega) (fun k s h1 h2 => by simp [w1, nb_d]; omega)
  have cd : ∀ k s, k = 107 ∨ k = 108 → mI M8 k 0 s = mI M1 k 0 s := fun k s hk => by
    rcases hk with rfl | rfl <;> exact (Q7.I rfl).trans ((Q6.I rfl).trans ((Q5.I rfl).trans ((Q4.I rfl).trans ((Q3.I rfl).trans ((Q2.I rfl).trans (Q1.I rfl))))))
  refine hO M8 r V8 P8 hX ?_ z7 ?_ ⟨?_, ?_, ?_, 520 * p + cc, ?_, ?_, ?_, ⟨by omega, ?_⟩, ?_, ?_⟩ (by omega)
  · exact (Q7.I rfl).trans ((Q6.I rfl).trans ((Q5.I rfl).trans ((Q4.I rfl).trans ((Q3.I rfl).trans ((Q2.I rfl).trans ((Q1.I rfl).trans j12))))))
  · exact (Q7.I rfl).trans ((Q6.I rfl).trans ((Q5.I rfl).trans ((Q4.I rfl).trans ((Q3.I rfl).trans ((Q2.I rfl).trans ((Q1.I rfl).trans g55))))))
  · exact (Q7.I rfl).trans ((Q6.I rfl).trans ((Q5.I rfl).trans ((Q4.I rfl).trans ((Q3.I rfl).trans ((Q2.I rfl).trans z1)))))
  · exact (Q7.I rfl).trans ((Q6.I rfl).trans ((Q5.I rfl).trans ((Q4.I rfl).trans ((Q3.I rfl).trans z2))))
  · exact (Q7.I rfl).trans ((Q6.I rfl).trans ((Q5.I rfl).trans ((Q4.I rfl).trans z3)))
  · exact (Q7.I rfl).trans ((Q6.I rfl).trans ((Q5.I rfl).trans z4))
  · refine ((Q7.I rfl).trans ((Q6.I rfl).trans z5)).trans ?_
    show nI (520 * p + (cc + L.length)) = nI (520 * p + cc + L.length)
    rw [Nat.add_assoc]
  · refine ((Q7.I rfl).trans z6).trans ?_
    show nI (520 * p + (cc + L.length + r.2.length)) = nI (520 * p + cc + L.length + r.2.length)
    congr 1
    omega
  · show 520 * p + cc + L.length + r.2.length ≤ 520 * p + (cc + L.length + r.2.length)
    omega
  · exact S1.cg (hi := 520 * p + cc + L.length) (fun s _ => ⟨cd _ _ (Or.inl rfl), cd _ _ (Or.inr rfl)⟩) (Nat.le_refl _)
  · show SpM M8 (520 * p + cc + L.length) r.2
    rw [Nat.add_assoc]
    exact C1.2.cg (hi := 520 * p + (cc + L.length) + r.2.length) (fun s _ => ⟨cd _ _ (Or.inl rfl), cd _ _ (Or.inr rfl)⟩) (Nat.le_refl _)
