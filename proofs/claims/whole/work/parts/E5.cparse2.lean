/-! READ: the class's reader: the parse -/
theorem c_tellLaw8 (Ω : Om) (M : Mem) (B : Nat → Nat) (n t so : Nat) (s : Ps) (C : Cn) (K : Ka) (h : PsC M B n (.ok s)) (h1 : mI M 7 t 1 = nI (xl C)) (h8 : xl C = 8)
    (hK : ∀ M', Un wRe M M' → PsC M' B n (eb (lwS B n so s C) fun r => .ok r.1) → (∀ r, lwS B n so s C = .ok r → False) → K none M') :
    CallS Ω true m_Reader_tellLaw [vR (some (4, 0)), vR (some (7, t)), vI (nI so)] M K := by
  refine call_go (hJL rfl) (Nat.le_of_ble_eq_true rfl) (go_wp ok_Reader_tellLaw [68] 250 _ _ _ _ _ _ ?_)
  conv => whnf
  rw [h1, h8]
  refine And.intro (fun q => absurd q (by decide)) (fun _ => And.intro (fun q => absurd q (by decide)) (fun q => ?_))
  conv => whnf
  refine ⟨fun r M' => r = none ∧ Un wRe M M' ∧ PsC M' B n (eb (.ok s) fun s => .error (2, s.1)), c_stop Ω M B n 2 (.ok s) _ (Or.inr rfl) h (fun M' a b => ⟨rfl, a, b⟩), trivial, ?_⟩
  rintro r M1 ⟨rfl, q1, q2⟩
  conv => whnf
  have e : lwS B n so s C = .error (2, s.1) := by unfold lwS; rw [h8, if_pos (by omega)]
  refine hK M1 q1 ?_ (fun r hr => by rw [e] at hr; cases hr)
  rw [e, eb_x]
  rw [eb_k] at q2
  exact q2
theorem c_tellWing4 (Ω : Om) (M : Mem) (B : Nat → Nat) (n t : Nat) (s : Ps) (C : Cn) (K : Ka) (h : PsC M B n (.ok s)) (h1 : mI M 7 t 6 = nI (xw C)) (h8 : xw C = 4)
    (hK : ∀ M', Un wRe M M' → PsC M' B n (eb (wiS B n s C) fun r => .ok r.1) → (∀ r, wiS B n s C = .ok r → False) → K none M') :
    CallS Ω true m_Reader_tellWing [vR (some (4, 0)), vR (some (7, t))] M K := by
  refine call_go (hJL rfl) (Nat.le_of_ble_eq_true rfl) (go_wp ok_Reader_tellWing [58] 250 _ _ _ _ _ _ ?_)
  conv => whnf
  rw [h1, h8]
  refine And.intro (fun q => absurd q (by decide)) (fun _ => And.intro (fun q => absurd q (by decide)) (fun q => ?_))
  conv => whnf
  refine ⟨fun r M' => r = none ∧ Un wRe M M' ∧ PsC M' B n (eb (.ok s) fun s => .error (2, s.1)), c_stop Ω M B n 2 (.ok s) _ (Or.inr rfl) h (fun M' a b => ⟨rfl, a, b⟩), trivial, ?_⟩
  rintro r M1 ⟨rfl, q1, q2⟩
  conv => whnf
  have e : wiS B n s C = .error (2, s.1) := by unfold wiS; rw [h8, if_pos (by omega)]
  refine hK M1 q1 ?_ (fun r hr => by rw [e] at hr; cases hr)
  rw [e, eb_x]
  rw [eb_k] at q2
  exact q2
theorem ClrF.un {M M' : Mem} {t : Nat} {w : Nat → Nat → Nat → Bool} (h : ClrF M t) (hU : Un w M M') (h2 : ∀ i, w 2 i 6 = false) (h3 : ∀ i s, w 23 i s = false) (h4 : ∀ s, w 44 t s = false) : ClrF M' t :=
  ⟨fun q hq => ⟨(hU.I (h2 _)).trans (h.1 q hq).1, fun i hi => (hU.J (h3 _ _)).trans ((h.1 q hq).2 i hi)⟩, fun j hj => (hU.I (h4 _)).trans (h.2 j hj)⟩
/-- one tell, whichever -/
theorem c_one {Ω : Om} {M : Mem} {B : Nat → Nat} {n t : Nat} {s : Ps} {C : Cn} (h : PsC M B n (.ok s)) (hC : CtC M t C s) (hF : ClrF M t) :
    (∀ so K, so = 200 ∨ so = 201 → (∀ M', Un (wTx t) M M' → PsC M' B n (eb (lwS B n so s C) fun r => .ok r.1) → ClrF M' t → (∀ r, lwS B n so s C = .ok r → Mo s r.1 → CtC M' t r.2 r.1) → K none M') → CallS Ω true m_Reader_tellLaw [vR (some (4, 0)), vR (some (7, t)), vI (nI so)] M K) ∧
    (∀ K, (∀ M', Un (wTx t) M M' → PsC M' B n (eb (hiS B n s C) fun r => .ok r.1) → ClrF M' t → (∀ r, hiS B n s C = .ok r → Mo s r.1 → CtC M' t r.2 r.1) → K none M') → CallS Ω true m_Reader_tellHinge [vR (some (4, 0)), vR (some (7, t))] M K) ∧
    (∀ K, (∀ M', Un (wTx t) M M' → PsC M' B n (eb (wiS B n s C) fun r => .ok r.1) → ClrF M' t → (∀ r, wiS B n s C = .ok r → Mo s r.1 → CtC M' t r.2 r.1) → K none M') → CallS Ω true m_Reader_tellWing [vR (some (4, 0)), vR (some (7, t))] M K) ∧
    (∀ K, (∀ M', Un (wTx t) M M' → PsC M' B n (eb (baS B n s C) fun r => .ok r.1) → ClrF M' t → (∀ r, baS B n s C = .ok r → Mo s r.1 → CtC M' t r.2 r.1) → K none M') → CallS Ω true m_Reader_tellBar [vR (some (4, 0)), vR (some (7, t))] M K) := by
  have hC0 := hC
  obtain ⟨⟨⟨c1, c2, c3, c4⟩, d1, d2, d3, d4⟩, ⟨S1, S4⟩, ⟨l1, l2⟩, h43, ⟨w1, w2⟩, ⟨hN, nl⟩, st⟩ := hC
  refine ⟨fun so K hso hK => ?_, fun K hK => ?_, fun K hK => ?_, fun K hK => ?_⟩
  · by_cases e8 : xl C = 8
    · exact c_tellLaw8 Ω M B n t so s C K h c1 e8 (fun M' a b c => hK M' (a.mono tx_re) b (hF.un a (fun i => rfl) (fun i s => rfl) (fun s => rfl)) (fun r hr => (c r hr).elim))
    · have e8 : xl C < 8 := by omega
      refine c_tellLaw Ω M B n t so s C K hso h c1 d1 (fun _ => l2 _ (Nat.le_refl _) e8) S1 hN (fun _ => by omega) (fun M' a b c d => hK M' (a.mono (tx_lw e8)) b (hF.un a (fun i => rfl) (fun i s => rfl) (fun s => rfl)) (fun r hr hm => ?_))
      obtain ⟨x1, x2, x3, x4⟩ := d r hr
      exact hC0.lw hr hm a c x2 x1 x3 x4
  · refine c_tellHinge Ω M B n t s C K h c2 d2 S1 hN (fun _ => by omega) (fun M' a b c d => hK M' (a.mono tx_hi) b (hF.un a (fun i => by simp [wHi, wHb, wNa, wRe, wNb, nb_d, nl_d]) (fun i s => by simp [wHi, wHb, wNa, wRe, wNb, nb_d, nl_d]) (fun s => by simp [wHi, wHb, wNa, wRe, wNb, nb_d, nl_d])) (fun r hr hm => ?_))
    obtain ⟨x1, x2, x3, x4⟩ := d r hr
    exact hC0.hi hr hm a c x2 x1 x3 x4
  · by_cases e8 : xw C = 4
    · exact c_tellWing4 Ω M B n t s C K h c3 e8 (fun M' a b c => hK M' (a.mono tx_re) b (hF.un a (fun i => rfl) (fun i s => rfl) (fun s => rfl)) (fun r hr => (c r hr).elim))
    · have e8 : xw C < 4 := by omega
      refine c_tellWing Ω M B n t s C K h c3 d3 (fun _ => w2 _ (Nat.le_refl _) e8) S1 hN (fun _ => by omega) (fun M' a b c d => hK M' (a.mono (tx_wi e8)) b (hF.un a (fun i => by simp [wWi, wWb, wSq, wSb, wMa, wRe, wNb, nb_d, nl_d]) (fun i s => by simp [wWi, wWb, wSq, wSb, wMa, wRe, wNb, nb_d, nl_d]) (fun s => by simp [wWi, wWb, wSq, wSb, wMa, wRe, wNb, nb_d, nl_d])) (fun r hr hm => ?_))
      obtain ⟨x1, x2, x3, x4, x5⟩ := d r hr
      exact hC0.wi hr hm a c x2 x1 ⟨x3, x4⟩ x5
  · refine c_tellBar Ω M B n t s C K h c4 d4 S1 S4 hN (fun _ => by omega) (fun M' a b c c' d => hK M' (a.mono tx_ba) b (hF.un a (fun i => by simp [wBa, wEx, wUn, wSp, wPn, wCb, wRe, wNb, nb_d, nl_d]) (fun i s => by simp [wBa, wEx, wUn, wSp, wPn, wCb, wRe, wNb, nb_d, nl_d]) (fun s => by simp [wBa, wEx, wUn, wSp, wPn, wCb, wRe, wNb, nb_d, nl_d])) (fun r hr hm => ?_))
    obtain ⟨x1, x2, x3, x4, x5⟩ := d r hr
    exact hC0.ba hr hm a c c' x2 x1 x3 x4 x5
