/-! READ: the model's reader: numbers and their bounds -/
theorem PsM.mn58 {M M' : Mem} {B : Nat → Nat} {n : Nat} {e : Except Fa Ps} (h : PsM M B n e) (U1 : Un w58 M M') : PsM M' B n e := h.un U1 (fun s h1 h2 _ => by simp [w58, nb_d]; omega) (fun k s h1 h2 => by simp [w58, nb_d]; omega)
theorem c_MD_number (Ω : Om) (M : Mem) (B : Nat → Nat) (n : Nat) (z : Bool) (e : Except Fa Ps) (K : Ka) (h : PsM M B n e)
    (hK : ∀ M' v, Un wMn M M' → PsM M' B n (eb (eb e (numS B n z)) fun r => .ok r.1) → (∀ r, eb e (numS B n z) = .ok r → v = r.2 ∧ mI M' 12 0 58 = nI r.1.2.1) → K (some (vI v)) M') : CallS Ω true m_MD_number [vR (some (12, 0)), vI (bI z)] M K := by
  refine call_go (hJL rfl) (Nat.le_of_ble_eq_true rfl) (go_wp ok_MD_number [36] 250 _ _ _ _ _ _ ?_)
  have plain : ∀ M', (∀ s, e = .ok s → ¬ (z = true ∧ tkK B n s.1 = 45)) → Un wMn M M' → PsM M' B n e → GoS Ω true m_MD_number K 36 [some (vR (some (12, 0))), some (vI (bI z)), some (vI 1), none] [] M' 0 0 := fun M' hz U P => by
    refine nu_tail P (fun M2 v U2 P2 h2 => hK M2 v (U.trans U2) ?_ (fun r hr => ?_))
    · have : (eb (eb e (numS B n z)) fun r => .ok r.1) = eb e (tkS B n 3) := by
        cases e with
        | error f => rfl
        | ok s =>
          rw [eb_k, eb_k]
          unfold numS
          rw [if_neg (hz s rfl)]
          cases tkS B n 3 s with
          | error f => rfl
          | ok s' => rfl
      rw [this]
      exact P2
    · obtain ⟨s, rfl, h3⟩ := eb_ok hr
      unfold numS at h3
      rw [if_neg (hz s rfl)] at h3
      obtain ⟨s', h4, h5⟩ := eb_ok h3
      cases h5
      exact h2 s' (by rw [eb_k]; exact h4)
  cases z with
  | false =>
    refine And.intro (fun _ => ?_) (fun q => absurd rfl q)
    conv => whnf
    refine And.intro (fun _ => ?_) (fun q => absurd rfl q)
    exact plain M (fun s _ q => by cases q.1) Un.rfl h
  | true =>
    refine And.intro (fun q => absurd q (by decide)) (fun _ => ?_)
    conv => whnf
    refine cl_use (fun K h' => c_MD_is Ω M B n 45 9 e K rfl (by decide) rfl h h') trivial ?_
    conv => whnf
    cases hb : isB B n 45 e with
    | false =>
      refine And.intro (fun _ => ?_) (fun q => absurd rfl q)
      conv => whnf
      refine And.intro (fun q => absurd q (by decide)) (fun _ => ?_)
      conv => whnf
      refine cl_use (fun K h' => c_MD_is Ω M B n 45 9 e K rfl (by decide) rfl h h') trivial ?_
      conv => whnf
      rw [hb]
      refine And.intro (fun _ => ?_) (fun q => absurd rfl q)
      exact plain M (fun s hs q => by subst hs; exact absurd q.2 (of_decide_eq_false hb)) Un.rfl h
    | true =>
      refine And.intro (fun q => absurd q (by decide)) (fun _ => ?_)
      conv => whnf
      refine And.intro (fun q => absurd q (by decide)) (fun _ => ?_)
      conv => whnf
      refine cl_use (fun K h' => c_MD_is Ω M B n 45 9 e K rfl (by decide) rfl h h') trivial ?_
      conv => whnf
      rw [hb]
      refine And.intro (fun q => absurd q (by decide)) (fun _ => ?_)
      cases e with
      | error f => cases hb
      | ok s =>
        have hk : tkK B n s.1 = 45 := of_decide_eq_true hb
        conv => whnf
        refine ⟨fun r M' => r = none ∧ Un wMe M M' ∧ PsM M' B n (tkS B n 45 s), c_MD_goesOn Ω M B n s _ (by omega) h (fun M' a b => ⟨rfl, a, by unfold tkS; rw [if_pos hk]; exact b⟩), trivial, ?_⟩
        rintro r M1 ⟨rfl, U1, P1⟩
        refine nu_tail P1 (fun M2 v U2 P2 h2 => hK M2 v ((U1.mono wMn_me).trans U2) ?_ (fun r hr => ?_))
        · have : (eb (eb (.ok s) (numS B n true)) fun r => .ok r.1) = eb (tkS B n 45 s) (tkS B n 3) := by
            rw [eb_k]
            unfold numS
            rw [if_pos ⟨rfl, hk⟩, eb_eb]
            exact eb_cg (fun s' _ => by
              cases tkS B n 3 s' with
              | error f => rfl
              | ok s' => rfl)
          rw [this]
          exact P2
        · rw [eb_k] at hr
          unfold numS at hr
          rw [if_pos ⟨rfl, hk⟩] at hr
          obtain ⟨s', h4, h5⟩ := eb_ok hr
          obtain ⟨s2, h6, h7⟩ := eb_ok h5
          cases h7
          exact h2 s2 (by rw [h4, eb_k]; exact h6)
theorem c_MD_within (Ω : Om) (M : Mem) (B : Nat → Nat) (n : Nat) (x lo hi : Int32) (e : Except Fa Ps) (K : Ka) (hn : n ≤ 2000) (h : PsM M B n e)
    (hs : ∀ s, e = .ok s → 1 ≤ s.1 ∧ (∀ q, s.2.2 = some q → q.2 < s.2.1) ∧ mI M 12 0 58 = nI s.2.1)
    (hK : ∀ M', Un wMe M M' → PsM M' B n (eb e fun s => .ok (blS 5 (decide (x < lo) || decide (hi < x)) s)) → K none M') : CallS Ω true m_MD_within [vR (some (12, 0)), vI x, vI lo, vI hi] M K := by
  refine call_go (hJL rfl) (Nat.le_of_ble_eq_true rfl) (go_wp ok_MD_within [17] 250 _ _ _ _ _ _ ?_)
  rcases rm_fault h with ⟨f, rfl, e1, _⟩ | ⟨s, rfl, e1, e2⟩
  · refine And.intro (fun _ => ?_) (fun q => absurd q e1)
    exact hK M Un.rfl h
  · obtain ⟨h1, h2, h3⟩ := hs s rfl
    have out : (decide (x < lo) || decide (hi < x)) = true → GoS Ω true m_MD_within K 17 [some (vR (some (12, 0))), some (vI x), some (vI lo), some (vI hi)] [] M 0 0 := fun hb => by
      refine go_wp ok_MD_within [] 250 _ _ _ _ _ _ ?_
      conv => whnf
      rw [h3]
      refine ⟨fun r M' => r = none ∧ Un wMe M M' ∧ PsM M' B n (.ok (blS 5 true s)), c_MD_wrong Ω M B n 5 s _ hn (Or.inr (Or.inr rfl)) h1 h2 h (fun M' a b => ⟨rfl, a, b⟩), trivial, ?_⟩
      rintro r M1 ⟨rfl, U1, P1⟩
      conv => whnf
      exact hK M1 U1 (by rw [eb_k, hb]; exact P1)
    refine And.intro (fun q => absurd e1 q) (fun _ => ?_)
    refine And.intro (fun q => ?_) (fun q => ?_)
    · exact out (by rw [decide_eq_true q]; rfl)
    · have q : ¬ x < lo := q
      refine And.intro (fun q2 => ?_) (fun q2 => ?_)
      · have hb : (decide (x < lo) || decide (hi < x)) = false := by
          rw [decide_eq_false q, decide_eq_false (fun r => absurd (Int32.lt_of_lt_of_le r q2) (Int32.lt_irrefl))]
          rfl
        exact hK M Un.rfl (by rw [eb_k, hb]; exact h)
      · have hb : hi < x := by
          have q2 : ¬ x ≤ hi := q2
          exact Int32.not_le.mp q2
        exact out (by rw [decide_eq_true hb, Bool.or_true])
