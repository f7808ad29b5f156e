/-! READ: the class's reader: a wing -/
theorem c_isMake (Ω : Om) (M : Mem) (v : Int32) (K : Ka) (h : K (some (vI (bI (inR 205 208 v)))) M) : CallS Ω true m_Reader_isMake [vI v] M K := by
  refine call_go (hJL rfl) (Nat.le_of_ble_eq_true rfl) (go_wp ok_Reader_isMake [] 250 _ _ _ _ _ _ ?_)
  refine And.intro (fun a => ?_) (fun a => And.intro (fun b => ?_) (fun b => ?_))
  · rw [inR_l a] at h; exact ⟨Or.inl rfl, h⟩
  · rw [inR_r b] at h; exact ⟨Or.inl rfl, h⟩
  · rw [inR_m a b] at h; exact ⟨Or.inr rfl, h⟩
theorem isMk_I {B : Nat → Nat} {n i : Nat} : inR 205 208 (nI (tkK B n i)) = isMk (tkK B n i) := inR_c (a := 205) (b := 208) (by decide) (by decide) (by have := tkK_lt B n i; omega)
/-- the names behind a strip's reading -/
theorem San1.sq {M M' : Mem} {t q : Nat} (h : San1 M t) (hU : Un (wSq q) M M') : San1 M' t := by
  obtain ⟨c, a, b⟩ := h
  exact ⟨c, a, (hU.I (by simp [wSq, wRe, wSb, nb_d, nl_d])).trans b⟩
theorem NmC.sq {M M' : Mem} {t q : Nat} {N : Nm} (h : NmC M t N) (hU : Un (wSq q) M M') : NmC M' t N := h.un hU (by simp [wSq, wRe, wSb, nb_d, nl_d]) (fun k s hk => by simp [wSq, wRe, wSb, nb_d, nl_d]; omega)
set_option maxHeartbeats 4000000 in
theorem st_loop {Ω : Om} {K : Ka} {M0 : Mem} {B : Nat → Nat} {n t q w : Nat} {N : Nm} {tl : Except Fa (Ps × Tx)} (hl : N.length ≤ 24) (S0 : San1 M0 t)
    (hN : ∀ M' r4, Un (wSq q) M0 M' → PsC M' B n (eb tl fun r => .ok r.1) → (∀ r, tl = .ok r → ∃ ns, 1 ≤ ns ∧ ns ≤ 10 ∧ r.2 86 w = nI ns ∧ WsP M' q w r.2 ns r.1.2.2) → GoS Ω true m_Reader_tellWing K 114 [some (vR (some (4, 0))), some (vR (some (7, t))), some (vI (nI w)), some (vR (some (10, q))), r4] [] M' 0 0) :
    ∀ (f ns : Nat) (y : Except Fa (Ps × Tx)) (M1 : Mem), ns + f = 11 → 1 ≤ ns → ns ≤ 10 → Un (wSq q) M0 M1 → PsC M1 B n (eb y fun r => .ok r.1) → San3 M1 q → (∀ r, y = .ok r → (r.1.2.2 = none → NmC M0 t N) ∧ r.2 86 w = nI ns ∧ WsP M1 q w r.2 ns r.1.2.2) → (eb y fun r => stpL B n w N f ns r.1 r.2) = tl →
      GoS Ω true m_Reader_tellWing K 58 [some (vR (some (4, 0))), some (vR (some (7, t))), some (vI (nI w)), some (vR (some (10, q))), some (vI (nI ns))] [] M1 0 0 := by
  intro f
  induction f with
  | zero => intro ns y M1 hf h1 h2; omega
  | succ f ih =>
    intro ns y M1 hf h1 h10 hU h hS hL he
    refine go_wp ok_Reader_tellWing [58, 108, 114] 250 _ _ _ _ _ _ ?_
    refine And.intro (fun z => absurd z (nI_nlt (a := 10) h10 (by decide))) (fun _ => ?_)
    conv => whnf
    rcases rd_fault h with ⟨fa, e1, e2⟩ | ⟨s, e1, e2, e3⟩
    · refine And.intro (fun _ => ?_) (fun z => absurd z e2)
      cases y with
      | error g =>
        rw [eb_x] at he
        subst he
        rw [eb_x] at h
        exact hN M1 _ hU (by rw [eb_x]; exact h) (fun r hr => by cases hr)
      | ok r => rw [eb_k] at e1; cases e1
    · refine And.intro (fun z => absurd e2 z) (fun _ => ?_)
      cases y with
      | error g => rw [eb_x] at e1; cases e1
      | ok r =>
        rw [eb_k] at e1 h he
        cases e1
        obtain ⟨hNm, hT, hLw⟩ := hL r rfl
        rw [stpL] at he
        conv => whnf
        rw [e3]
        refine And.intro (fun z => ?_) (fun z => ?_)
        · have z : ¬ tkK B n r.1.1 = 44 := fun y => z (by rw [y]; rfl)
          rw [if_neg z] at he
          subst he
          exact hN M1 _ hU h (fun r' hr' => by cases hr'; exact ⟨ns, h1, h10, hT, hLw⟩)
        · have z : tkK B n r.1.1 = 44 := (tk_e (c := 44) (by decide)).mp z
          rw [if_pos z] at he
          conv => whnf
          refine ⟨fun r' M' => r' = none ∧ Un wRe M1 M' ∧ PsC M' B n (eb (.ok r.1) (tkS B n 44)), c_take Ω M1 B n 44 (.ok r.1) _ ⟨by decide, by decide⟩ h (fun M' a b => ⟨rfl, a, b⟩), trivial, ?_⟩
          rintro r' M2 ⟨rfl, hU2, h2'⟩
          rw [eb_k] at h2'
          have hU2' := hU.trans (hU2.mono wSq_re)
          conv => whnf
          refine And.intro (fun y => ?_) (fun y => ?_)
          · have y : nI 10 ≤ nI ns := y
            rw [nI_leI (by omega) (by omega)] at y
            conv => whnf
            refine ⟨fun r' M' => r' = none ∧ Un wRe M2 M' ∧ PsC M' B n (eb (tkS B n 44 r.1) fun s => .error (2, s.1)), c_stop Ω M2 B n 2 _ _ (Or.inr rfl) h2' (fun M' a b => ⟨rfl, a, b⟩), trivial, ?_⟩
            rintro r' M3 ⟨rfl, hU3, h3⟩
            have e4 : tl = eb (tkS B n 44 r.1) (fun s => .error (2, s.1)) := by
              rw [← he]
              exact eb_cg (fun s _ => by rw [if_pos y])
            have e5 : ∃ g, tl = .error g ∧ PsC M3 B n (.error g) := by
              rw [e4]
              cases hh : tkS B n 44 r.1 with
              | error g => rw [hh, eb_x] at h3; exact ⟨g, by rw [eb_x], h3⟩
              | ok s => rw [hh, eb_k] at h3; exact ⟨_, by rw [eb_k], h3⟩
            obtain ⟨g, e6, e7⟩ := e5
            conv => whnf
            refine go_wp ok_Reader_tellWing [58] 250 _ _ _ _ _ _ ?_
            conv => whnf
            rw [nI_1]
            refine go_wp ok_Reader_tellWing [114] 250 _ _ _ _ _ _ ?_
            refine And.intro (fun _ => ?_) (fun v => absurd (show (10 : Int32) < nI (ns + 1) from nI_lt (a := 10) (by omega) (by omega)) v)
            exact hN M3 _ (hU2'.trans (hU3.mono wSq_re)) (by rw [e6, eb_x]; exact e7) (fun r hr => by rw [e6] at hr; cases hr)
          · have y : ¬ nI 10 ≤ nI ns := y
            rw [nI_leI (by omega) (by omega)] at y
            conv => whnf
            refine ⟨fun r' M' => r' = none ∧ Un (wSq q) M2 M' ∧ PsC M' B n (eb (eb (eb (tkS B n 44 r.1) fun s => .ok (s, r.2)) fun r => stpS B n w ns N r.1 r.2) fun r => .ok r.1) ∧ San3 M' q ∧ (∀ r', (eb (eb (tkS B n 44 r.1) fun s => .ok (s, r.2)) fun r => stpS B n w ns N r.1 r.2) = .ok r' → WsP M' q w r'.2 (ns + 1) r'.1.2.2), c_tellStrip Ω M2 B n t w q ns N (eb (tkS B n 44 r.1) fun s => .ok (s, r.2)) _ (by omega) (by rw [eb_pr, eb_id]; exact h2') (S0.sq hU2') (hS.re hU2) hl (fun r' hr' hn => ?_) (fun r' hr' => ?_) (fun M' a b c d => ⟨rfl, a, b, c, d⟩), trivial, ?_⟩
            · obtain ⟨s, z1, z2⟩ := eb_ok hr'
              cases z2
              exact (hNm ((tkS_mo z1).1.2 hn)).sq hU2'
            · obtain ⟨s, z1, z2⟩ := eb_ok hr'
              have := (tkS_ok z1).2.2
              subst this
              cases z2
              exact hLw.re hU2
            rintro r' M3 ⟨rfl, hU3, h3, hS3, hL3⟩
            conv => whnf
            refine go_wp ok_Reader_tellWing [58] 250 _ _ _ _ _ _ ?_
            conv => whnf
            rw [nI_1]
            refine ih (ns + 1) _ M3 (by omega) (by omega) (by omega) (hU2'.trans hU3) h3 hS3 (fun r' hr' => ⟨fun hn => ?_, ?_, hL3 r' hr'⟩) ?_
            · obtain ⟨r0, z1, z2⟩ := eb_ok hr'
              obtain ⟨s, z3, z4⟩ := eb_ok z1
              cases z4
              exact hNm ((tkS_mo z3).1.2 ((stpS_mo z2).2 hn))
            · obtain ⟨r0, z1, z2⟩ := eb_ok hr'
              rw [stp_eq] at z2
              obtain ⟨r1, g1, z2⟩ := eb_ok z2
              obtain ⟨r2, g2, z2⟩ := eb_ok z2
              obtain ⟨r3, g3, z2⟩ := eb_ok z2
              obtain ⟨r4, g4, z2⟩ := eb_ok z2
              obtain ⟨r5, g5, z2⟩ := eb_ok z2
              cases z2
              exact sT_at.2.2.2.2.2
            · rw [← he, eb_eb, eb_eb]
              refine eb_cg (fun s _ => ?_)
              rw [eb_k, if_neg y]
set_option maxHeartbeats 4000000 in
theorem mk_loop2 {Ω : Om} {K : Ka} {M0 : Mem} {B : Nat → Nat} {n t q w : Nat} {tl : Except Fa (Ps × Tx)}
    (hN : ∀ M' r4, Un (wMq q) M0 M' → PsC M' B n (eb tl fun r => .ok r.1) → (∀ r, tl = .ok r → WmP M' q w r.2) → GoS Ω true m_Reader_tellWing K 157 [some (vR (some (4, 0))), some (vR (some (7, t))), some (vI (nI w)), some (vR (some (10, q))), r4] [] M' 0 0) :
    ∀ (f j : Nat) (y : Except Fa (Ps × Tx)) (M1 : Mem), j + f = 501 → Un (wMq q) M0 M1 → PsC M1 B n (eb y fun r => .ok r.1) → (∀ r, y = .ok r → WmP M1 q w r.2) → (eb y fun r => mkL B n w f r.1 r.2) = tl →
      GoS Ω true m_Reader_tellWing K 117 [some (vR (some (4, 0))), some (vR (some (7, t))), some (vI (nI w)), some (vR (some (10, q))), some (vI (nI j))] [] M1 0 0 := by
  intro f
  induction f with
  | zero =>
    intro j y M1 hf hU h hL he
    have e2 : y = tl := by
      rw [← he]
      cases y with
      | error e => rw [eb_x]
      | ok r => rw [eb_k]; rfl
    subst e2
    refine go_wp ok_Reader_tellWing [157] 250 _ _ _ _ _ _ ?_
    refine And.intro (fun _ => hN M1 _ hU h hL) (fun z => absurd (show (500 : Int32) < nI j from nI_lt (a := 500) (by omega) (by omega)) z)
  | succ f ih =>
    intro j y M1 hf hU h hL he
    refine go_wp ok_Reader_tellWing [117, 157] 250 _ _ _ _ _ _ ?_
    refine And.intro (fun z => absurd z (nI_nlt (a := 500) (by omega) (by decide))) (fun _ => ?_)
    conv => whnf
    rcases rd_fault h with ⟨fa, e1, e2⟩ | ⟨s, e1, e2, e3⟩
    · refine And.intro (fun _ => ?_) (fun z => absurd z e2)
      cases y with
      | error g =>
        rw [eb_x] at he
        subst he
        rw [eb_x] at h
        exact hN M1 _ hU (by rw [eb_x]; exact h) (fun r hr => by cases hr)
      | ok r => rw [eb_k] at e1; cases e1
    · refine And.intro (fun z => absurd e2 z) (fun _ => ?_)
      cases y with
      | error g => rw [eb_x] at e1; cases e1
      | ok r =>
        rw [eb_k] at e1 h he
        cases e1
        have hLw := hL r rfl
        rw [mkL] at he
        conv => whnf
        rw [e3]
        refine cl_use (fun K h => c_isMake Ω _ _ K h) trivial ?_
        rw [isMk_I]
        refine br_bz (fun z => ?_) (fun z => ?_)
        · have z : isMk (tkK B n r.1.1) = false := z
          rw [z, if_neg (by decide)] at he
          subst he
          exact hN M1 _ hU h (fun r' hr' => by cases hr'; exact hLw)
        · have z : isMk (tkK B n r.1.1) = true := z
          rw [z, if_pos rfl] at he
          have z1 := Nat.le_of_ble_eq_true (Bool.and_eq_true_iff.mp z).1
          have z2 := Nat.le_of_ble_eq_true (Bool.and_eq_true_iff.mp z).2
          conv => whnf
          rw [e3]
          refine ⟨fun r' M' => r' = none ∧ Un (wMq q) M1 M' ∧ PsC M' B n (eb (mkS B n w (tkK B n r.1.1) r.1 r.2) fun r => .ok r.1) ∧ (∀ r', mkS B n w (tkK B n r.1.1) r.1 r.2 = .ok r' → WmP M' q w r'.2), c_tellMake Ω M1 B n q w (tkK B n r.1.1) r.1 r.2 _ ⟨z1, z2⟩ h hLw (fun M' a b c => ⟨rfl, a, b, c⟩), trivial, ?_⟩
          rintro r' M2 ⟨rfl, U2, P2, W2⟩
          conv => whnf
          rw [nI_1]
          exact ih (j + 1) _ M2 (by omega) (hU.trans U2) P2 W2 he
