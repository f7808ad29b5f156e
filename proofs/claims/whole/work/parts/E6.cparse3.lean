/-! READ: the class's reader: the parse, II -/
set_option maxHeartbeats 1000000 in
theorem pa_loop {Ω : Om} {K : Ka} {M0 : Mem} {B : Nat → Nat} {n t : Nat} {tl : Except Fa (Ps × Cn)}
    (hN : ∀ M' v, Un (wTx t) M0 M' → PsC M' B n (eb tl fun r => .ok r.1) → ClrF M' t → (∀ r, tl = .ok r → CtC M' t r.2 r.1) → GoS Ω true m_Reader_parse K 155 [some (vR (some (4, 0))), some (vR (some (7, t))), some (vR (some (63, 0))), some (vI (nI n)), v] [] M' 0 0) :
    ∀ (f j : Nat) (y : Except Fa (Ps × Cn)) (M1 : Mem), j + f = 501 → Un (wTx t) M0 M1 → PsC M1 B n (eb y fun r => .ok r.1) → ClrF M1 t → (∀ r, y = .ok r → CtC M1 t r.2 r.1) → (eb y fun r => paS B n f r.1 r.2) = tl →
      GoS Ω true m_Reader_parse K 48 [some (vR (some (4, 0))), some (vR (some (7, t))), some (vR (some (63, 0))), some (vI (nI n)), some (vI (nI j))] [] M1 0 0 := by
  intro f
  induction f with
  | zero =>
    intro j y M1 hj hU h hF hC he
    refine go_wp ok_Reader_parse [155] 250 _ _ _ _ _ _ ?_
    refine And.intro (fun _ => ?_) (fun q => absurd (show (500 : Int32) < nI j from nI_lt (a := 500) (by omega) (by omega)) q)
    have e : tl = y := by
      rw [← he]
      cases y with
      | error g => rfl
      | ok r => rfl
    exact hN M1 _ hU (by rw [e]; exact h) hF (by rw [e]; exact hC)
  | succ f ih =>
    intro j y M1 hj hU h hF hC he
    refine go_wp ok_Reader_parse [149, 155] 250 _ _ _ _ _ _ ?_
    refine And.intro (fun q => absurd q (nI_nlt (a := 500) (by omega) (by decide))) (fun _ => ?_)
    conv => whnf
    rcases rd_fault h with ⟨fa, e1, e2⟩ | ⟨s0, e1, e2, e3⟩
    · refine And.intro (fun _ => ?_) (fun q => absurd q e2)
      cases y with
      | error g =>
        rw [eb_x] at he
        subst he
        exact hN M1 _ hU h hF (fun r hr => by cases hr)
      | ok r => rw [eb_k] at e1; cases e1
    · refine And.intro (fun q => absurd e2 q) (fun _ => ?_)
      cases y with
      | error g => rw [eb_x] at e1; cases e1
      | ok r =>
        obtain ⟨s, C⟩ := r
        rw [eb_k] at e1 h he
        cases e1
        have hC1 := hC _ rfl
        conv => whnf
        rw [e3]
        have nx : ∀ M2, Un (wTx t) M1 M2 → PsC M2 B n (eb (teS B n s C) fun r => .ok r.1) → ClrF M2 t → (∀ r, teS B n s C = .ok r → CtC M2 t r.2 r.1) → ¬ tkK B n s.1 = 0 → GoS Ω true m_Reader_parse K 149 [some (vR (some (4, 0))), some (vR (some (7, t))), some (vR (some (63, 0))), some (vI (nI n)), some (vI (nI j))] [] M2 0 0 := fun M2 U2 P2 F2 C2 hk => by
          refine go_wp ok_Reader_parse [48] 250 _ _ _ _ _ _ ?_
          conv => whnf
          rw [nI_1]
          refine ih (j + 1) (teS B n s C) M2 (by omega) (hU.trans U2) P2 F2 C2 ?_
          rw [← he]
          show _ = paS B n (f + 1) s C
          rw [paS, if_neg hk]
        refine And.intro (fun q => ?_) (fun q => ?_)
        · have q : tkK B n s.1 = 0 := (tk_e (c := 0) (by decide)).mp q
          have e : tl = .ok (s, C) := by
            rw [← he]
            show paS B n (f + 1) s C = _
            rw [paS, if_pos q]
          exact hN M1 _ hU (by rw [e]; exact h) hF (fun r hr => by rw [e] at hr; cases hr; exact hC1)
        · have q : ¬ tkK B n s.1 = 0 := fun z => q (by rw [z]; rfl)
          have h : PsC M1 B n (.ok s) := h
          obtain ⟨o1, o2, o3, o4⟩ := c_one (Ω := Ω) h hC1 hF
          conv => whnf
          rw [e3]
          refine And.intro (fun q2 => ?_) (fun n0 => swC_i (fun p hp q2 => ?_) (fun hd => ?_))
          · have q3 : tkK B n s.1 = 200 := (tk_e (c := 200) (by decide)).mp q2
            conv => whnf
            rw [e3, q3]
            refine ⟨fun r M' => r = none ∧ Un (wTx t) M1 M' ∧ PsC M' B n (eb (lwS B n 200 s C) fun r => .ok r.1) ∧ ClrF M' t ∧ (∀ r, lwS B n 200 s C = .ok r → Mo s r.1 → CtC M' t r.2 r.1), o1 200 _ (by decide) (fun M' a b c d => ⟨rfl, a, b, c, d⟩), trivial, ?_⟩
            rintro r M2 ⟨rfl, U2, P2, F2, C2⟩
            conv => whnf
            have et : teS B n s C = lwS B n 200 s C := by
              unfold teS
              rw [q3]
              rfl
            exact nx M2 U2 (by rw [et]; exact P2) F2 (fun r hr => C2 r (by rw [← et]; exact hr) (teS_mo hr).1) q
          · simp only [List.mem_cons, List.not_mem_nil, or_false] at hp
            have q2' := congrArg Int32.toNatClampNeg q2
            rw [nI_clamp (Nat.lt_trans (tkK_lt B n s.1) (by decide))] at q2'
            rcases hp with rfl | rfl | rfl | rfl
            · have q3 : tkK B n s.1 = 201 := q2'
              conv => whnf
              rw [e3, q3]
              refine ⟨fun r M' => r = none ∧ Un (wTx t) M1 M' ∧ PsC M' B n (eb (lwS B n 201 s C) fun r => .ok r.1) ∧ ClrF M' t ∧ (∀ r, lwS B n 201 s C = .ok r → Mo s r.1 → CtC M' t r.2 r.1), o1 201 _ (by decide) (fun M' a b c d => ⟨rfl, a, b, c, d⟩), trivial, ?_⟩
              rintro r M2 ⟨rfl, U2, P2, F2, C2⟩
              conv => whnf
              have et : teS B n s C = lwS B n 201 s C := by
                unfold teS
                rw [q3]
                rfl
              exact nx M2 U2 (by rw [et]; exact P2) F2 (fun r hr => C2 r (by rw [← et]; exact hr) (teS_mo hr).1) q
            · have q3 : tkK B n s.1 = 202 := q2'
              conv => whnf
              refine ⟨fun r M' => r = none ∧ Un (wTx t) M1 M' ∧ PsC M' B n (eb (hiS B n s C) fun r => .ok r.1) ∧ ClrF M' t ∧ (∀ r, hiS B n s C = .ok r → Mo s r.1 → CtC M' t r.2 r.1), o2 _ (fun M' a b c d => ⟨rfl, a, b, c, d⟩), trivial, ?_⟩
              rintro r M2 ⟨rfl, U2, P2, F2, C2⟩
              conv => whnf
              have et : teS B n s C = hiS B n s C := by
                unfold teS
                rw [q3]
                rfl
              exact nx M2 U2 (by rw [et]; exact P2) F2 (fun r hr => C2 r (by rw [← et]; exact hr) (teS_mo hr).1) q
            · have q3 : tkK B n s.1 = 203 := q2'
              conv => whnf
              refine ⟨fun r M' => r = none ∧ Un (wTx t) M1 M' ∧ PsC M' B n (eb (wiS B n s C) fun r => .ok r.1) ∧ ClrF M' t ∧ (∀ r, wiS B n s C = .ok r → Mo s r.1 → CtC M' t r.2 r.1), o3 _ (fun M' a b c d => ⟨rfl, a, b, c, d⟩), trivial, ?_⟩
              rintro r M2 ⟨rfl, U2, P2, F2, C2⟩
              conv => whnf
              have et : teS B n s C = wiS B n s C := by
                unfold teS
                rw [q3]
                rfl
              exact nx M2 U2 (by rw [et]; exact P2) F2 (fun r hr => C2 r (by rw [← et]; exact hr) (teS_mo hr).1) q
            · have q3 : tkK B n s.1 = 204 := q2'
              conv => whnf
              refine ⟨fun r M' => r = none ∧ Un (wTx t) M1 M' ∧ PsC M' B n (eb (baS B n s C) fun r => .ok r.1) ∧ ClrF M' t ∧ (∀ r, baS B n s C = .ok r → Mo s r.1 → CtC M' t r.2 r.1), o4 _ (fun M' a b c d => ⟨rfl, a, b, c, d⟩), trivial, ?_⟩
              rintro r M2 ⟨rfl, U2, P2, F2, C2⟩
              conv => whnf
              have et : teS B n s C = baS B n s C := by
                unfold teS
                rw [q3]
                rfl
              exact nx M2 U2 (by rw [et]; exact P2) F2 (fun r hr => C2 r (by rw [← et]; exact hr) (teS_mo hr).1) q
          · have et : teS B n s C = .error (1, s.1) := by
              unfold teS
              rw [if_neg (fun z => by
                rcases z with z | z
                · exact n0 (by rw [z]; rfl)
                · exact hd (201, 108) (by decide) (by rw [z]; rfl)), if_neg (fun z => hd (202, 120) (by decide) (by rw [z]; rfl)), if_neg (fun z => hd (203, 128) (by decide) (by rw [z]; rfl)), if_neg (fun z => hd (204, 136) (by decide) (by rw [z]; rfl))]
            conv => whnf
            refine ⟨fun r M' => r = none ∧ Un wRe M1 M' ∧ PsC M' B n (eb (.ok s) fun s => .error (1, s.1)), c_stop Ω M1 B n 1 (.ok s) _ (Or.inl rfl) h (fun M' a b => ⟨rfl, a, b⟩), trivial, ?_⟩
            rintro r M2 ⟨rfl, q1, q2⟩
            conv => whnf
            exact nx M2 (q1.mono tx_re) (by rw [et, eb_x]; rw [eb_k] at q2; exact q2) (hF.un q1 (fun i => rfl) (fun i s => rfl) (fun s => rfl)) (fun r hr => by rw [et] at hr; cases hr) q
/-- what is read of a text -/
def paT (B : Nat → Nat) (n : Nat) (T0 : Tx) : Except Fa (Ps × Cn) := paS B n 501 (0, 0, none) (T0, [], (0, 0, 0, 0), fun _ => [])
theorem CtC.start {M : Mem} {t : Nat} {T0 : Tx} (h : ClrC M t) : CtC M t (T0, [], (0, 0, 0, 0), fun _ => []) (0, 0, none) := by
  obtain ⟨h1, h2, ⟨h3, h4⟩, h5, h6, h7, h8⟩ := h
  exact ⟨⟨⟨h5, h6, h7, h4⟩, Nat.zero_le _, Nat.zero_le _, Nat.zero_le _, Nat.zero_le _⟩, ⟨⟨0, by decide, h8⟩, ⟨0, by decide, h3⟩⟩, ⟨fun k hk => absurd hk (Nat.not_lt_zero _), fun k _ hk => h1 k hk⟩, fun h hh => absurd hh (Nat.not_lt_zero _), ⟨fun w hw => absurd hw (Nat.not_lt_zero _), fun w _ hw => h2 w hw⟩, ⟨fun _ => ⟨h8, fun i hi => absurd hi (Nat.not_lt_zero _)⟩, Nat.zero_le _⟩, ⟨⟨h3, Nat.zero_le _⟩, trivial⟩, Nat.zero_le _, fun b hb => absurd hb (Nat.not_lt_zero _)⟩
theorem c_parse (Ω : Om) (M : Mem) (B : Nat → Nat) (n t : Nat) (T0 : Tx) (K : Ka) (hn : n ≤ 2000) (hB : ∀ i, i < n → mI M 63 0 i &&& 255 = nI (B i) ∧ B i < 256) (hw : ∀ s, s < 22 → mJ M 49 0 s = iJ 49 s)
    (hK : ∀ M', Un (wTx t) M M' → PsC M' B n (eb (paT B n T0) fun r => .ok r.1) → ClrF M' t → (∀ r, paT B n T0 = .ok r → CtC M' t r.2 r.1) → K (some (vI (nI (rdA (eb (paT B n T0) fun r => .ok r.1))))) M') :
    CallS Ω true m_Reader_parse [vR (some (4, 0)), vR (some (7, t)), vR (some (63, 0)), vI (nI n)] M K := by
  refine call_go (hJL rfl) (Nat.le_of_ble_eq_true rfl) (go_wp ok_Reader_parse [48] 250 _ _ _ _ _ _ ?_)
  conv => whnf
  refine ⟨fun r M' => r = none ∧ Un wTa M M' ∧ TpC M' B n ∧ TkC M' B n, c_scanAll Ω M B n _ hn hB hw (fun M' a b c => ⟨rfl, a, b, c⟩), trivial, ?_⟩
  rintro r M1 ⟨rfl, U1, P1, T1⟩
  conv => whnf
  refine ⟨fun r M' => r = none ∧ Un (wTx t) M1 M' ∧ ClrC M' t ∧ ClrF M' t ∧ TpC M' B n ∧ TkC M' B n, c_clear Ω M1 t _ (fun M' a b c _ d => ⟨rfl, a, b, c, P1.un d rfl rfl (fun s => rfl) (fun s => rfl), T1.un d rfl (fun k s hk => by rcases hk with rfl | rfl | rfl <;> rfl)⟩), trivial, ?_⟩
  rintro r M2 ⟨rfl, U2, C2, F2, P2, T2⟩
  conv => whnf
  refine cl_use (fun K h => c_kindOf Ω _ B n 0 K (T2.un (w := wRe) (Un.rfl.pI rfl) rfl (fun k s hk => by rcases hk with rfl | rfl | rfl <;> rfl)) ⟨by decide, fun i hi => absurd hi (Nat.not_lt_zero _)⟩ h) trivial ?_
  conv => whnf
  generalize hM3 : sI (sI (sI (sI (sI M2 4 0 1 0) 4 0 2 (nI (tkK B n 0))) 4 0 3 0) 4 0 4 0) 4 0 6 0 = M3
  have U3 : Un wRe M2 M3 := by
    rw [← hM3]
    exact ((((Un.rfl.pI rfl).pI rfl).pI rfl).pI rfl).pI rfl
  have P3 : PsC M3 B n (.ok (0, 0, none)) := by
    refine ⟨⟨P2.un U3 rfl rfl (fun s => rfl) (fun s => rfl), T2.un U3 rfl (fun k s hk => by rcases hk with rfl | rfl | rfl <;> rfl)⟩, ⟨⟨by decide, fun i hi => absurd hi (Nat.not_lt_zero _)⟩, rfl⟩, ?_, ?_, ?_, ?_, ?_⟩
    · rw [← hM3, mI_st rfl, mI_st rfl, mI_st rfl, mI_st rfl, mI_eq]; rfl
    · rw [← hM3, mI_st rfl, mI_st rfl, mI_st rfl, mI_eq]
    · rw [← hM3, mI_st rfl, mI_st rfl, mI_eq]; rfl
    · rw [← hM3, mI_st rfl, mI_eq]
    · show mI M3 4 0 6 = 0
      rw [← hM3, mI_eq]
  clear hM3
  have C3 : ClrC M3 t := ⟨fun k hk => (U3.I rfl).trans (C2.1 k hk), fun w hw => (C2.2.1 w hw).un U3 (fun s => rfl), ⟨(U3.I rfl).trans C2.2.2.1.1, (U3.I rfl).trans C2.2.2.1.2⟩, (U3.I rfl).trans C2.2.2.2.1, (U3.I rfl).trans C2.2.2.2.2.1, (U3.I rfl).trans C2.2.2.2.2.2.1, (U3.I rfl).trans C2.2.2.2.2.2.2⟩
  have F3 : ClrF M3 t := F2.un U3 (fun i => rfl) (fun i s => rfl) (fun s => rfl)
  refine pa_loop (M0 := M) (tl := paT B n T0) (fun M' v a b c d => ?_) 501 0 (.ok ((0, 0, none), (T0, [], (0, 0, 0, 0), fun _ => []))) M3 rfl ((U1.mono tx_ta).trans (U2.trans (U3.mono tx_re))) (by rw [eb_k]; exact P3) F3 (fun r hr => by cases hr; exact CtC.start C3) (by rw [eb_k]; rfl)
  refine go_wp ok_Reader_parse [] 250 _ _ _ _ _ _ ?_
  have hk := hK M' a b c d
  generalize (eb (paT B n T0) fun r => .ok r.1 : Except Fa Ps) = e at b hk
  rcases rd_fault b with ⟨fa, e1, e2⟩ | ⟨s, e1, e2, e3⟩
  · refine And.intro (fun z => absurd z e2) (fun _ => ?_)
    subst e1
    conv => whnf
    rw [b.2.2.1]
    exact hk
  · refine And.intro (fun _ => ?_) (fun z => absurd e2 z)
    subst e1
    obtain ⟨p, lk, q⟩ := s
    have hl := b.2.2.2.2.2.2
    conv => whnf
    cases q with
    | none => 
      have hl : mI M' 4 0 6 = 0 := hl
      rw [hl]; exact hk
    | some q => rw [hl.2.1]; exact hk
