/-! READ: the class's reader: numbers and names -/
theorem eb_eb {α β γ : Type} (x : Except Fa α) (f : α → Except Fa β) (g : β → Except Fa γ) : eb (eb x f) g = eb x fun a => eb (f a) g := by cases x <;> rfl
theorem rch_tk {B : Nat → Nat} {n : Nat} {M : Mem} {s : Ps} (h : PsO M B n s) : rch B n s.2.1 := by rw [h.1.2]; exact rchp h.1.1
theorem eb_k {α β : Type} {a : α} {f : α → Except Fa β} : eb (.ok a) f = f a := rfl
theorem eb_x {α β : Type} {e : Fa} {f : α → Except Fa β} : eb (.error e) f = .error e := rfl
theorem nu_s {B : Nat → Nat} {n : Nat} {lo hi : Int32} {s0 : Ps} : eb (nuS B n lo hi s0) (fun r => .ok r.1) = eb (tkS B n 3 s0) (fun s => .ok (blS 5 (decide ((tkV B n s.2.1).toInt32 < lo) || decide (hi < (tkV B n s.2.1).toInt32)) s)) := by
  unfold nuS
  rw [eb_eb]
  generalize tkS B n 3 s0 = z
  cases z with
  | error f => rfl
  | ok s => rfl
theorem nu_e1 {B : Nat → Nat} {n : Nat} {lo hi : Int32} {e : Except Fa Ps} {y : Int64} (key : ∀ s, eb e (tkS B n 3) = .ok s → y = tkV B n s.2.1) : ∀ c, c = (decide (y.toInt32 < lo) || decide (hi < y.toInt32)) → eb (eb e (nuS B n lo hi)) (fun r => .ok r.1) = eb (eb e (tkS B n 3)) (fun s => .ok (blS 5 c s)) := by
  rintro c rfl
  rw [eb_eb, eb_eb]
  cases e with
  | error f => rw [eb_x, eb_x]
  | ok s0 =>
    rw [eb_k, eb_k, nu_s]
    rw [eb_k] at key
    generalize tkS B n 3 s0 = z at key
    cases z with
    | error f => rw [eb_x, eb_x]
    | ok s => rw [eb_k, eb_k, key s rfl]
theorem nu_e2 {B : Nat → Nat} {n : Nat} {lo hi : Int32} {e : Except Fa Ps} {y : Int64} (key : ∀ s, eb e (tkS B n 3) = .ok s → y = tkV B n s.2.1) : ∀ r, eb e (nuS B n lo hi) = .ok r → y.toInt32 = r.2 := fun r hr => by
  obtain ⟨s0, q1, q2⟩ := eb_ok hr
  obtain ⟨s, q3, q4⟩ := eb_ok q2
  rw [key s (by rw [q1]; exact q3)]
  cases q4
  rfl
theorem tk_pos {B : Nat → Nat} {n due : Nat} {e : Except Fa Ps} {s : Ps} (hs : eb e (tkS B n due) = .ok s) : 1 ≤ s.1 := by
  obtain ⟨a, _, h4⟩ := eb_ok hs
  obtain ⟨_, _, rfl⟩ := tkS_ok h4
  exact Nat.succ_le_succ (Nat.zero_le _)
theorem blS_f (k : Nat) (x : Except Fa Ps) : eb x (fun s => .ok (blS k false s)) = x := by cases x <;> rfl
set_option maxHeartbeats 1000000 in
theorem c_number (Ω : Om) (M : Mem) (B : Nat → Nat) (n : Nat) (lo hi : Int32) (e : Except Fa Ps) (K : Ka) (h : PsC M B n e) (hK : ∀ M' v, Un wRe M M' → PsC M' B n (eb (eb e (nuS B n lo hi)) fun r => .ok r.1) → (∀ r, eb e (nuS B n lo hi) = .ok r → v = r.2) → K (some (vI v)) M') : CallS Ω true m_Reader_number [vR (some (4, 0)), vI lo, vI hi] M K := by
  refine call_go (hJL rfl) (Nat.le_of_ble_eq_true rfl) (go_wp ok_Reader_number [28, 33] 250 _ _ _ _ _ _ ?_)
  conv => whnf
  refine ⟨fun r M' => r = none ∧ Un wRe M M' ∧ PsC M' B n (eb e (tkS B n 3)), c_take Ω M B n 3 e _ ⟨by decide, by decide⟩ h (fun M' a b => ⟨rfl, a, b⟩), trivial, ?_⟩
  rintro r M1 ⟨rfl, hU1, h1⟩
  conv => whnf
  refine ⟨fun r M' => ∃ y, r = some (vJ y) ∧ M' = M1 ∧ ∀ i, rch B n i → mI M1 4 0 3 = nI i → y = tkV B n i, c_tkVal Ω M1 B n _ _ h1.1.2 h1.1.2.c (fun y hy => ⟨y, rfl, rfl, hy⟩), trivial, ?_⟩
  rintro r M2 ⟨y, rfl, rfl, hy⟩
  have key : ∀ s, eb e (tkS B n 3) = .ok s → y = tkV B n s.2.1 ∧ 1 ≤ s.1 := fun s hs => by
    have h2 := h1.2
    rw [hs] at h2
    exact ⟨hy _ (rch_tk h2) h2.2.2.2.1, tk_pos hs⟩
  have e1 := nu_e1 (lo := lo) (hi := hi) (y := y) (fun s hs => (key s hs).1)
  have e2 := nu_e2 (lo := lo) (hi := hi) (y := y) (fun s hs => (key s hs).1)
  have bad : (decide (y.toInt32 < lo) || decide (hi < y.toInt32)) = true → GoS Ω true m_Reader_number K 28 [some (vR (some (4, 0))), some (vI lo), some (vI hi), some (vI y.toInt32)] [] M2 0 0 := by
    intro hc
    refine go_wp ok_Reader_number [] 250 _ _ _ _ _ _ ?_
    conv => whnf
    refine ⟨fun r M' => r = none ∧ Un wRe M2 M' ∧ PsC M' B n (eb (eb e (tkS B n 3)) fun s => .ok (blS 5 true s)), c_blame Ω M2 B n 5 _ _ (by decide) h1 (fun s hs => (key s hs).2) (fun M' a b => ⟨rfl, a, b⟩), trivial, ?_⟩
    rintro r M3 ⟨rfl, q1, q2⟩
    conv => whnf
    exact hK M3 _ (hU1.trans q1) (by rw [e1 true hc.symm]; exact q2) e2
  conv => whnf
  refine And.intro (fun c => ?_) (fun c => And.intro (fun d => ?_) (fun d => ?_))
  · exact bad (by rw [decide_eq_true c]; rfl)
  · refine go_wp ok_Reader_number [] 250 _ _ _ _ _ _ ?_
    refine hK M2 _ hU1 ?_ e2
    rw [e1 false (by rw [decide_eq_false c, decide_eq_false (Int32.not_lt.mpr d)]; rfl)]
    rw [blS_f]
    exact h1
  · exact bad (by rw [decide_eq_true (Int32.not_le.mp d), Bool.or_true])
set_option maxHeartbeats 1000000 in
theorem c_signed (Ω : Om) (M : Mem) (B : Nat → Nat) (n : Nat) (lim : Int32) (e : Except Fa Ps) (K : Ka) (h : PsC M B n e) (hK : ∀ M' v, Un wRe M M' → PsC M' B n (eb (eb e (sdS B n lim)) fun r => .ok r.1) → (∀ r, eb e (sdS B n lim) = .ok r → v = r.2) → K (some (vI v)) M') : CallS Ω true m_Reader_signed [vR (some (4, 0)), vI lim] M K := by
  have main : ∀ (b : Bool) (e1 : Except Fa Ps) (M1 : Mem), Un wRe M M1 → PsC M1 B n e1 → (eb (eb e1 (nuS B n 0 lim)) (fun r => .ok r.1) = eb (eb e (sdS B n lim)) fun r => .ok r.1) → (∀ r, eb e (sdS B n lim) = .ok r → ∃ r', eb e1 (nuS B n 0 lim) = .ok r' ∧ r.2 = if b = true then -r'.2 else r'.2) → GoS Ω true m_Reader_signed K 25 [some (vR (some (4, 0))), some (vI lim), some (vI (bI b)), none] [] M1 0 0 := by
    intro b e1 M1 hU1 h1 hs hv
    refine go_wp ok_Reader_signed [] 250 _ _ _ _ _ _ ?_
    conv => whnf
    refine ⟨fun r M' => ∃ v, r = some (vI v) ∧ Un wRe M1 M' ∧ PsC M' B n (eb (eb e1 (nuS B n 0 lim)) fun r => .ok r.1) ∧ ∀ r, eb e1 (nuS B n 0 lim) = .ok r → v = r.2, c_number Ω M1 B n 0 lim e1 _ h1 (fun M' v a b c => ⟨v, rfl, a, b, c⟩), trivial, ?_⟩
    rintro r M2 ⟨v, rfl, q1, q2, q3⟩
    rw [hs] at q2
    conv => whnf
    refine br_bz (fun c => ?_) (fun c => ?_)
    · refine hK M2 _ (hU1.trans q1) q2 (fun r hr => ?_)
      obtain ⟨r', z1, z2⟩ := hv r hr
      rw [z2, c, if_neg (by decide)]
      exact q3 r' z1
    · refine hK M2 _ (hU1.trans q1) q2 (fun r hr => ?_)
      obtain ⟨r', z1, z2⟩ := hv r hr
      rw [z2, c, if_pos rfl, q3 r' z1]
  have fork : ∀ b : Bool, (∀ s, e = .ok s → (tkK B n s.1 = 45 ↔ b = true)) → GoS Ω true m_Reader_signed K 14 [some (vR (some (4, 0))), some (vI lim), none, none] [vI (bI b)] M 0 0 := by
    intro b hb
    refine go_wp ok_Reader_signed [25] 250 _ _ _ _ _ _ ?_
    conv => whnf
    refine br_bz (fun c => ?_) (fun c => ?_)
    · refine main b e M Un.rfl h ?_ (fun r hr => ?_)
      · cases e with
        | error f => rfl
        | ok s =>
          have : sdS B n lim s = nuS B n 0 lim s := by
            unfold sdS
            rw [if_neg (fun q => by have := (hb s rfl).mp q; rw [c] at this; cases this)]
          show eb (nuS B n 0 lim s) _ = eb (sdS B n lim s) _
          rw [this]
      · obtain ⟨s, q1, q2⟩ := eb_ok hr
        refine ⟨r, ?_, by rw [c]; rfl⟩
        rw [q1]
        unfold sdS at q2
        rw [if_neg (fun q => by have := (hb s q1).mp q; rw [c] at this; cases this)] at q2
        exact q2
    · conv => whnf
      refine ⟨fun r M' => r = none ∧ Un wRe M M' ∧ PsC M' B n (eb e (tkS B n 45)), c_take Ω M B n 45 e _ ⟨by decide, by decide⟩ h (fun M' a b => ⟨rfl, a, b⟩), trivial, ?_⟩
      rintro r M1 ⟨rfl, hU1, h1⟩
      refine main b (eb e (tkS B n 45)) M1 hU1 h1 ?_ (fun r hr => ?_)
      · cases e with
        | error f => rfl
        | ok s =>
          have : sdS B n lim s = eb (tkS B n 45 s) fun s => eb (nuS B n 0 lim s) fun r => .ok (r.1, -r.2) := by
            unfold sdS
            rw [if_pos ((hb s rfl).mpr c)]
          show eb (eb (tkS B n 45 s) _) _ = eb (sdS B n lim s) _
          rw [this, eb_eb, eb_eb]
          cases tkS B n 45 s with
          | error f => rfl
          | ok s' =>
            show eb (nuS B n 0 lim s') _ = eb (eb (nuS B n 0 lim s') _) _
            rw [eb_eb]
            cases nuS B n 0 lim s' <;> rfl
      · obtain ⟨s, q1, q2⟩ := eb_ok hr
        unfold sdS at q2
        rw [if_pos ((hb s q1).mpr c)] at q2
        obtain ⟨s', q3, q4⟩ := eb_ok q2
        obtain ⟨r', q5, q6⟩ := eb_ok q4
        cases q6
        refine ⟨r', ?_, by rw [c]; rfl⟩
        rw [q1]
        show eb (tkS B n 45 s) _ = _
        rw [q3]
        exact q5
  refine call_go (hJL rfl) (Nat.le_of_ble_eq_true rfl) (go_wp ok_Reader_signed [14] 250 _ _ _ _ _ _ ?_)
  refine And.intro (fun c => ?_) (fun c => ?_)
  · conv => whnf
    refine fork false (fun s hs => ?_)
    have h2 := h.2
    rw [hs] at h2
    refine ⟨fun q => ?_, fun q => by cases q⟩
    rw [h2.2.2.1, q] at c
    exact absurd rfl c
  · conv => whnf
    refine fork true (fun s hs => ?_)
    have h2 := h.2
    rw [hs] at h2
    refine ⟨fun _ => rfl, fun _ => ?_⟩
    rw [h2.2.2.1] at c
    exact (nI_eq (by have := tkK_lt B n s.1; omega) (b := 45) (by decide)).mp c
