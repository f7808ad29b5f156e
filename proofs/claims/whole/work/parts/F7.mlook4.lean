/-! READ: the model's reader: hinges named -/
set_option maxHeartbeats 1000000 in
theorem c_MD_hingeNamed (Ω : Om) (M : Mem) (B : Nat → Nat) (n p nl nh nw nb : Nat) (N : Nm) (e : Except Fa Ps) (K : Ka) (hn : n ≤ 2000) (h : PsM M B n e) (hp : p < 4) (h20 : mI M 12 0 20 = nI p) (h80 : mI M 80 0 p = nI nh) (hl : nh ≤ 4)
    (hN : ∀ s, e = .ok s → s.2.2 = none → ∃ N0, NmM M p N0 nl nh nw nb ∧ ∀ x so, ¬ so = 203 → ¬ so = 204 → nmF N x so = nmF N0 x so)
    (hK : ∀ M' v, Un wMe M M' → PsM M' B n (eb (eb e fun s => knS B n 202 s N) fun r => .ok r.1) → (∀ r, (eb e fun s => knS B n 202 s N) = .ok r → r.1.2.2 = none → v = hI r.2) → K (some (vI v)) M') : CallS Ω true m_MD_hingeNamed [vR (some (12, 0))] M K := by
  rw [kn_ss] at hK
  refine call_go (hJL rfl) (Nat.le_of_ble_eq_true rfl) (go_wp ok_MD_hingeNamed [33] 250 _ _ _ _ _ _ ?_)
  conv => whnf
  refine ⟨fun r M' => r = none ∧ Un wMe M M' ∧ PsM M' B n (eb e (tkS B n 2)), c_MD_must Ω M B n 2 1 e _ rfl (by decide) rfl (by decide) h (fun M' a b => ⟨rfl, a, b⟩), trivial, ?_⟩
  rintro r M1 ⟨rfl, U1, P1⟩
  conv => whnf
  rcases rm_fault P1 with ⟨f, e1, e2, e3⟩ | ⟨s', e1, e2, e3⟩
  · refine And.intro (fun q => absurd q e3) (fun _ => ?_)
    rw [e1, eb_x] at hK
    rw [e1] at P1
    refine hK M1 (-1) U1 P1 (fun r hr => ?_)
    obtain ⟨s, q1, _⟩ := kn_rr hr
    rw [e1] at q1
    cases q1
  refine And.intro (fun _ => ?_) (fun q => absurd (show mI M1 12 0 13 ≤ 0 by rw [e2]; decide) q)
  rw [e1] at P1
  rw [e1, eb_k] at hK
  have e1' := e1
  obtain ⟨s, rfl, h2⟩ := eb_ok e1
  obtain ⟨h3, h4, rfl⟩ := tkS_ok h2
  obtain ⟨⟨hr, -⟩, g11, -, gl⟩ := h.2
  have h5 := hr.1
  have hnm : mJ M1 72 0 s.1 = tkV B n s.1 := (P1.1 s.1 hr).2.2.2 h3
  rw [g11]
  have hK : ∀ M' v, Un wMe M M' → PsM M' B n (.ok (blS 4 (nmF N (tkV B n s.1) 202).isNone (s.1 + 1, s.1, s.2.2))) → (s.2.2 = none → v = hI (nmF N (tkV B n s.1) 202)) → K (some (vI v)) M' := fun M' v a b c => hK M' v a b (fun r hr hl => by
    obtain ⟨s2, q1, q2, q3⟩ := kn_rr hr
    rw [e1'] at q1
    cases q1
    rw [q3]
    refine c (kn_late (B := B) (n := n) (so := 202) (N := N) (s := s) (r := r) ?_ hl)
    rw [eb_k] at hr
    exact hr)
  generalize tkV B n s.1 = x at hK hnm
  have k20 : mI M1 12 0 20 = nI p := (U1.I rfl).trans h20
  have k80 : mI M1 80 0 p = nI nh := (U1.I rfl).trans h80
  conv => whnf
  rw [k20]
  refine And.intro (vp_in_nI (by omega) (by decide)) ?_
  rw [nI_clamp (by omega), k80]
  have hx : s.2.2 = none → dn (fun k => decide (mJ M1 81 0 (4 * p + k) = x)) nh none = nmF N x 202 := fun hs => by
    obtain ⟨N0, n1, n2⟩ := hN s rfl hs
    rw [n2 x _ (by decide) (by decide), ← n1.hinge x, show (fun k => decide (mJ M1 81 0 (4 * p + k) = x)) = (fun k => decide (mJ M 81 0 (4 * p + k) = x)) from funext fun k => by rw [U1.J (k := 81) rfl]]
  have hb : ∀ k, dn (fun k => decide (mJ M1 81 0 (4 * p + k) = x)) nh none = some k → k < 4 := fun k hk => by
    rcases dn_eq.1 k hk with ⟨a, _⟩ | a
    · omega
    · cases a
  refine hn_loop (i := s.1) (c := nh) (x := x) hr.1 hp k20 hnm hl (fun v => ?_) nh none (Nat.le_refl _) rfl
  refine go_wp ok_MD_hingeNamed [79] 250 _ _ _ _ _ _ ?_
  conv => whnf
  generalize dn (fun k => decide (mJ M1 81 0 (4 * p + k) = x)) nh none = o at hx hb
  cases o with
  | some k =>
    have hk := hb k rfl
    have nk : ¬ nI k = -1 := fun q => by
      have := congrArg Int32.toInt q
      rw [nI_toInt (by omega)] at this
      have e : (-1 : Int32).toInt = -1 := by decide
      omega
    refine And.intro (fun _ => ?_) (fun q => absurd q nk)
    refine go_wp ok_MD_hingeNamed [] 250 _ _ _ _ _ _ ?_
    refine hK M1 _ U1 ?_ (fun hs => ?_)
    · cases hs : s.2.2 with
      | none =>
        rw [← hx hs]
        rw [hs] at P1
        exact P1
      | some q =>
        rw [blS_some rfl]
        rw [hs] at P1
        exact P1
    · rw [← hx hs]
  | none =>
    refine And.intro (fun q => absurd rfl q) (fun _ => ?_)
    conv => whnf
    refine ⟨fun r M' => r = none ∧ Un wMe M1 M' ∧ PsM M' B n (.ok (blS 4 true (s.1 + 1, s.1, s.2.2))), c_MD_wrong Ω M1 B n 4 (s.1 + 1, s.1, s.2.2) _ hn (Or.inr (Or.inl rfl)) (by show 1 ≤ s.1 + 1; omega) (fun q hq => ?_) P1 (fun M' a b => ⟨rfl, a, b⟩), trivial, ?_⟩
    · have hq : s.2.2 = some q := hq
      rw [hq] at gl
      exact gl.1.2
    · rintro r M2 ⟨rfl, U2, P2⟩
      conv => whnf
      refine go_wp ok_MD_hingeNamed [] 250 _ _ _ _ _ _ ?_
      refine hK M2 _ (U1.trans U2) ?_ (fun hs => ?_)
      · cases hs : s.2.2 with
        | none =>
          rw [← hx hs]
          rw [hs] at P2
          exact P2
        | some q =>
          rw [hs] at P2
          rw [blS_some rfl] at P2 ⊢
          exact P2
      · rw [← hx hs]
