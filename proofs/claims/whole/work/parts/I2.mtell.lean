/-! READ: the model's reader: one tell -/
theorem hi_parts {B : Nat → Nat} {n : Nat} {s : Ps} {C : Cn} {r : Ps × Cn} (h : hiS B n s C = .ok r) : xh C < 4 ∧ ∃ v, xT r.2 = upT (xT C) 82 (xh C) v ∧ xl r.2 = xl C ∧ xh r.2 = xh C + 1 ∧ xw r.2 = xw C ∧ xb r.2 = xb C ∧ xL r.2 = xL C := by
  unfold hiS at h
  split at h
  · cases h
  next hx =>
    obtain ⟨s1, h1, h⟩ := eb_ok h
    obtain ⟨r1, h2, h⟩ := eb_ok h
    obtain ⟨q, h3, h⟩ := eb_ok h
    obtain ⟨s2, h4, h⟩ := eb_ok h
    cases h
    exact ⟨by omega, q.2, rfl, rfl, rfl, rfl, rfl, rfl⟩
theorem wHm_is {p h k i s : Nat} (q : wHm p h k i s = true) : (k = 12 ∧ (s = 11 ∨ (13 ≤ s ∧ s ≤ 16) ∨ s = 58)) ∨ ((k = 81 ∨ k = 82) ∧ s = 4 * p + h) ∨ (k = 80 ∧ s = p) := by
  simp [wHm, wMn, nb_d, nl_d] at q
  omega
theorem wHm_no {p h k i s : Nat} (q : ¬ ((k = 12 ∧ (s = 11 ∨ (13 ≤ s ∧ s ≤ 16) ∨ s = 58)) ∨ ((k = 81 ∨ k = 82) ∧ s = 4 * p + h) ∨ (k = 80 ∧ s = p))) : wHm p h k i s = false := Bool.eq_false_iff.mpr (fun z => q (wHm_is z))
theorem wHm_pr {p h : Nat} (hh : h < 4) : ∀ k i s, wPr p k i s = false → wHm p h k i s = false := mono_of (fun k i s q => by
  rcases wHm_is q with ⟨rfl, q⟩ | ⟨rfl | rfl, rfl⟩ | ⟨rfl, rfl⟩
  · simp [wPr, nb_d, nl_d]; omega
  · simp [wPr, nb_d, nl_d, psz]; omega
  · simp [wPr, nb_d, nl_d, psz, szf]; omega
  · simp [wPr, nb_d, nl_d, psz, szf])
theorem CtM.hi {M M' : Mem} {B : Nat → Nat} {n p : Nat} {s : Ps} {C : Cn} {r : Ps × Cn} (h : CtM M p C s) (hr : hiS B n s C = .ok r) (hm : Mo s r.1) (hU : Un (wHm p (xh C)) M M') (h80 : mI M' 80 0 p = nI (xh C + 1)) (h82 : mI M' 82 0 (4 * p + xh C) = xT r.2 82 (xh C))
    (hN : r.1.2.2 = none → nmI (xN C) (mJ M' 81 0 (4 * p + xh C)) = false ∧ xN r.2 = xN C ++ [(mJ M' 81 0 (4 * p + xh C), 202, xh C)]) : CtM M' p r.2 r.1 := by
  obtain ⟨⟨a1, a2⟩, ⟨b1, b2, b3, b4⟩, ⟨c1, c2, c3, c4⟩, d, e, lc, cc, ⟨f1, f2⟩, f3, f4, g⟩ := h
  obtain ⟨hx, v, t1, t2, t3, t4, t5, t6⟩ := hi_parts hr
  have hm1 := hm.1
  have e82 : xT r.2 82 (xh C) = v := by rw [t1, upT_eq]
  unfold CtM
  rw [t2, t3, t4, t5, t6]
  refine ⟨⟨(hU.I (wHm_no (by omega))).trans a1, (hU.I (wHm_no (by omega))).trans a2⟩, ⟨(hU.I (wHm_no (by omega))).trans b1, h80, (hU.I (wHm_no (by omega))).trans b3, (hU.I (wHm_no (by omega))).trans b4⟩, ⟨c1, by omega, c3, c4⟩, fun f a hf ha => ?_, fun hl => ⟨fun f a hf ha => ?_, ?_⟩, lc, cc, ⟨by omega, by omega⟩, (hU.I (wHm_no (by omega))).trans f3, (hU.I (wHm_no (by omega))).trans f4, fun b hb => ⟨(g b hb).1, ?_⟩⟩
  · have q := pgf_ge hf
    by_cases c : f = 82
    · subst c
      have ha : a < 4 := ha
      by_cases c2 : a = xh C
      · rw [c2]
        exact h82
      · rw [t1, upT_na c2, ← d 82 a hf ha]
        exact hU.I (wHm_no (by show ¬ ((82 = 12 ∧ _) ∨ ((82 = 81 ∨ 82 = 82) ∧ 4 * p + a = 4 * p + xh C) ∨ (82 = 80 ∧ 4 * p + a = p)); omega))
    · rw [t1, upT_nf (by rw [nb_d, decide_eq_false c]), ← d f a hf ha]
      exact hU.I (wHm_no (by omega))
  · have q := nmf_ge hf
    rw [t1, upT_nf (by rw [nb_d]; exact decide_eq_false (by omega)), ← (e (hm.2 hl)).1 f a hf ha]
    exact hU.I (wHm_no (by omega))
  · obtain ⟨x1, x2⟩ := hN hl
    rw [x2]
    refine NmM.hin1 ((e (hm.2 hl)).2.cg (fun k hk => ⟨hU.J (wHm_no (by omega)), hU.I (wHm_no (by omega))⟩) (fun k hk => hU.J (wHm_no (by omega))) (fun k _ => hU.J (wHm_no (by omega))) (fun k _ => hU.J (wHm_no (by omega)))) x1 rfl
  · refine (g b hb).2.cg (Nat.le_refl _) (Nat.le_refl _) (fun k _ _ => hU.I (wHm_no (by omega))) (fun k s _ _ _ => hU.I (wHm_no (by omega))) (fun s _ => ⟨hU.I (wHm_no (by omega)), hU.I (wHm_no (by omega))⟩)
theorem wPr_me {p : Nat} : ∀ k i s, wPr p k i s = false → wMe k i s = false := mono_of (fun k i s h => by
  have q : k = 12 ∧ (s = 11 ∨ (13 ≤ s ∧ s ≤ 16)) := by
    simp [wMe, nb_d, nl_d] at h
    omega
  rw [q.1]
  simp [wPr, nb_d, nl_d]
  omega)
theorem c_MD_tellLawE (Ω : Om) (M : Mem) (B : Nat → Nat) (n : Nat) (f : Fa) (K : Ka) (h : PsM M B n (.error f)) (hK : K none M) : CallS Ω true m_MD_tellLaw [vR (some (12, 0))] M K := by
  rcases rm_fault h with ⟨f', e1, e2, e3⟩ | ⟨s', e1, e2, e3⟩
  · refine call_go (hJL rfl) (Nat.le_of_ble_eq_true rfl) (go_wp ok_MD_tellLaw [] 250 _ _ _ _ _ _ ?_)
    exact And.intro (fun q => absurd q e3) (fun _ => hK)
  · cases e1
theorem c_MD_tellHingeE (Ω : Om) (M : Mem) (B : Nat → Nat) (n : Nat) (f : Fa) (K : Ka) (h : PsM M B n (.error f)) (hK : K none M) : CallS Ω true m_MD_tellHinge [vR (some (12, 0))] M K := by
  rcases rm_fault h with ⟨f', e1, e2, e3⟩ | ⟨s', e1, e2, e3⟩
  · refine call_go (hJL rfl) (Nat.le_of_ble_eq_true rfl) (go_wp ok_MD_tellHinge [] 250 _ _ _ _ _ _ ?_)
    exact And.intro (fun q => absurd q e3) (fun _ => hK)
  · cases e1
theorem c_MD_tellWingE (Ω : Om) (M : Mem) (B : Nat → Nat) (n : Nat) (f : Fa) (K : Ka) (h : PsM M B n (.error f)) (hK : K none M) : CallS Ω true m_MD_tellWing [vR (some (12, 0))] M K := by
  rcases rm_fault h with ⟨f', e1, e2, e3⟩ | ⟨s', e1, e2, e3⟩
  · refine call_go (hJL rfl) (Nat.le_of_ble_eq_true rfl) (go_wp ok_MD_tellWing [] 250 _ _ _ _ _ _ ?_)
    exact And.intro (fun q => absurd q e3) (fun _ => hK)
  · cases e1
theorem c_MD_tellBarE (Ω : Om) (M : Mem) (B : Nat → Nat) (n : Nat) (f : Fa) (K : Ka) (h : PsM M B n (.error f)) (hK : K none M) : CallS Ω true m_MD_tellBar [vR (some (12, 0))] M K := by
  rcases rm_fault h with ⟨f', e1, e2, e3⟩ | ⟨s', e1, e2, e3⟩
  · refine call_go (hJL rfl) (Nat.le_of_ble_eq_true rfl) (go_wp ok_MD_tellBar [] 250 _ _ _ _ _ _ ?_)
    exact And.intro (fun q => absurd q e3) (fun _ => hK)
  · cases e1
theorem te_law {B : Nat → Nat} {n so : Nat} {s : Ps} {C : Cn} (h : tkK B n s.1 = so) (hso : so = 200 ∨ so = 201) : teS B n s C = lwS B n so s C := by
  unfold teS; rw [if_pos (by rw [h]; exact hso), h]
theorem te_hin {B : Nat → Nat} {n : Nat} {s : Ps} {C : Cn} (h : tkK B n s.1 = 202) : teS B n s C = hiS B n s C := by
  unfold teS; rw [if_neg (by rw [h]; decide), if_pos h]
theorem te_win {B : Nat → Nat} {n : Nat} {s : Ps} {C : Cn} (h : tkK B n s.1 = 203) : teS B n s C = wiS B n s C := by
  unfold teS; rw [if_neg (by rw [h]; decide), if_neg (by rw [h]; decide), if_pos h]
theorem te_bar {B : Nat → Nat} {n : Nat} {s : Ps} {C : Cn} (h : tkK B n s.1 = 204) : teS B n s C = baS B n s C := by
  unfold teS; rw [if_neg (by rw [h]; decide), if_neg (by rw [h]; decide), if_neg (by rw [h]; decide), if_pos h]
theorem mk_20b : ∀ k, k < 222 → kdR k = true → (Nat.ble 200 k && Nat.ble k 204) = false → (Nat.ble 20 (mkK k) && Nat.ble (mkK k) 24) = false := by decide +kernel
theorem mk_20 {k : Nat} (h1 : k < 222) (h2 : kdR k = true) (h3 : ¬ (k = 200 ∨ k = 201 ∨ k = 202 ∨ k = 203 ∨ k = 204)) : ¬ mkK k = 20 ∧ ¬ mkK k = 21 ∧ ¬ mkK k = 22 ∧ ¬ mkK k = 23 ∧ ¬ mkK k = 24 := by
  have := mk_20b k h1 h2 (by simp [nl_d]; omega)
  simp [nl_d] at this
  omega
set_option maxHeartbeats 4000000 in
theorem c_MD_tell (Ω : Om) (M : Mem) (B : Nat → Nat) (n p : Nat) (s : Ps) (C : Cn) (K : Ka) (hn : n ≤ 2000) (h : PsM M B n (.ok s)) (hp : p < 4) (hC : CtM M p C s)
    (hK : ∀ M', Un (wPr p) M M' → PsM M' B n (eb (teS B n s C) fun r => .ok r.1) → (∀ r, teS B n s C = .ok r → CtM M' p r.2 r.1) → K none M') :
    CallS Ω true m_MD_tell [vR (some (12, 0))] M K := by
  have hr := h.2.1.1
  have h5 := hr.1
  have hC0 := hC
  obtain ⟨⟨h20, -⟩, ⟨h74, h80, h84, h97⟩, ⟨hl, hh, hw, hb⟩, -, hNm, -⟩ := hC0
  refine call_go (hJL rfl) (Nat.le_of_ble_eq_true rfl) (go_wp ok_MD_tell [44, 70, 95, 120, 146] 250 _ _ _ _ _ _ ?_)
  conv => whnf
  rw [h.2.2.1]
  refine And.intro (vp_in_nI (by omega) (by decide)) ?_
  rw [nI_clamp (by omega), (h.1 s.1 hr).1]
  -- the four kinds
  have laws : ∀ so, tkK B n s.1 = so → so = 200 ∨ so = 201 → GoS Ω true m_MD_tell K 44 [some (vR (some (12, 0)))] [] M 0 0 := fun so htk hso => by
    rw [te_law htk hso] at hK
    refine go_wp ok_MD_tell [63] 250 _ _ _ _ _ _ ?_
    conv => whnf
    rw [h20]
    refine And.intro (vp_in_nI (by omega) (by decide)) ?_
    rw [nI_clamp (by omega), h74]
    by_cases e8 : xl C = 8
    · refine And.intro (fun q => absurd (show nI (xl C) = nI 8 by rw [e8]) q) (fun _ => ?_)
      conv => whnf
      refine ⟨fun r M' => r = none ∧ Un wMe M M' ∧ PsM M' B n (.error (2, s.1)), c_MD_fail Ω M B n 2 _ _ (Or.inr rfl) h (fun M' a b => ⟨rfl, a, b⟩), trivial, ?_⟩
      rintro r M1 ⟨rfl, U1, P1⟩
      have e : lwS B n so s C = .error (2, s.1) := by unfold lwS; rw [if_pos (by omega)]
      rw [e] at hK
      refine go_wp ok_MD_tell [] 250 _ _ _ _ _ _ ?_
      conv => whnf
      refine ⟨fun r M' => r = none ∧ M' = M1, c_MD_tellLawE Ω M1 B n _ _ P1 ⟨rfl, rfl⟩, trivial, ?_⟩
      rintro r M2 ⟨rfl, rfl⟩
      conv => whnf
      exact hK M2 (U1.mono wPr_me) P1 (fun r hr => by cases hr)
    · refine And.intro (fun _ => ?_) (fun q => absurd ((nI_eq (by omega) (by decide)).mp (show nI (xl C) = nI 8 from q)) e8)
      refine go_wp ok_MD_tell [] 250 _ _ _ _ _ _ ?_
      conv => whnf
      refine ⟨_, c_MD_tellLaw Ω M B n p so s C (fun r M' => r = none ∧ K none M') hn h htk hso (by omega) hp hC (fun M' a b c => ⟨rfl, hK M' (a.mono (wLm_pr (by omega))) b c⟩), trivial, ?_⟩
      rintro r M2 ⟨rfl, g⟩
      conv => whnf
      exact g
  have hinges : tkK B n s.1 = 202 → GoS Ω true m_MD_tell K 70 [some (vR (some (12, 0)))] [] M 0 0 := fun htk => by
    rw [te_hin htk] at hK
    refine go_wp ok_MD_tell [88] 250 _ _ _ _ _ _ ?_
    conv => whnf
    rw [h20]
    refine And.intro (vp_in_nI (by omega) (by decide)) ?_
    rw [nI_clamp (by omega), h80]
    by_cases e8 : xh C = 4
    · refine And.intro (fun q => absurd (show nI (xh C) = nI 4 by rw [e8]) q) (fun _ => ?_)
      conv => whnf
      refine ⟨fun r M' => r = none ∧ Un wMe M M' ∧ PsM M' B n (.error (2, s.1)), c_MD_fail Ω M B n 2 _ _ (Or.inr rfl) h (fun M' a b => ⟨rfl, a, b⟩), trivial, ?_⟩
      rintro r M1 ⟨rfl, U1, P1⟩
      have e : hiS B n s C = .error (2, s.1) := by unfold hiS; rw [if_pos (by omega)]
      rw [e] at hK
      refine go_wp ok_MD_tell [] 250 _ _ _ _ _ _ ?_
      conv => whnf
      refine ⟨fun r M' => r = none ∧ M' = M1, c_MD_tellHingeE Ω M1 B n _ _ P1 ⟨rfl, rfl⟩, trivial, ?_⟩
      rintro r M2 ⟨rfl, rfl⟩
      conv => whnf
      exact hK M2 (U1.mono wPr_me) P1 (fun r hr => by cases hr)
    · refine And.intro (fun _ => ?_) (fun q => absurd ((nI_eq (by omega) (by decide)).mp (show nI (xh C) = nI 4 from q)) e8)
      refine go_wp ok_MD_tell [] 250 _ _ _ _ _ _ ?_
      conv => whnf
      refine ⟨_, c_MD_tellHinge Ω M B n p (xl C) (xw C) (xb C) s C (fun r M' => r = none ∧ K none M') hn h htk (by omega) hp h20 h74 h80 h84 h97 hl hw hb (fun hlt => (hNm hlt).2) (fun M' a b c => ⟨rfl, hK M' (a.mono (wHm_pr (by omega))) b (fun r hr => ?_)⟩), trivial, ?_⟩
      · obtain ⟨x1, x2, x3⟩ := c r hr
        exact hC.hi hr (teS_mo (show teS B n s C = .ok r by rw [te_hin htk]; exact hr)).1 a x1 x2 x3
      · rintro r M2 ⟨rfl, g⟩
        conv => whnf
        exact g
  have wings : tkK B n s.1 = 203 → GoS Ω true m_MD_tell K 95 [some (vR (some (12, 0)))] [] M 0 0 := fun htk => by
    rw [te_win htk] at hK
    refine go_wp ok_MD_tell [113] 250 _ _ _ _ _ _ ?_
    conv => whnf
    rw [h20]
    refine And.intro (vp_in_nI (by omega) (by decide)) ?_
    rw [nI_clamp (by omega), h84]
    by_cases e8 : xw C = 4
    · refine And.intro (fun q => absurd (show nI (xw C) = nI 4 by rw [e8]) q) (fun _ => ?_)
      conv => whnf
      refine ⟨fun r M' => r = none ∧ Un wMe M M' ∧ PsM M' B n (.error (2, s.1)), c_MD_fail Ω M B n 2 _ _ (Or.inr rfl) h (fun M' a b => ⟨rfl, a, b⟩), trivial, ?_⟩
      rintro r M1 ⟨rfl, U1, P1⟩
      have e : wiS B n s C = .error (2, s.1) := by unfold wiS; rw [if_pos (by omega)]
      rw [e] at hK
      refine go_wp ok_MD_tell [] 250 _ _ _ _ _ _ ?_
      conv => whnf
      refine ⟨fun r M' => r = none ∧ M' = M1, c_MD_tellWingE Ω M1 B n _ _ P1 ⟨rfl, rfl⟩, trivial, ?_⟩
      rintro r M2 ⟨rfl, rfl⟩
      conv => whnf
      exact hK M2 (U1.mono wPr_me) P1 (fun r hr => by cases hr)
    · refine And.intro (fun _ => ?_) (fun q => absurd ((nI_eq (by omega) (by decide)).mp (show nI (xw C) = nI 4 from q)) e8)
      refine go_wp ok_MD_tell [] 250 _ _ _ _ _ _ ?_
      conv => whnf
      refine ⟨_, c_MD_tellWing Ω M B n p s C (fun r M' => r = none ∧ K none M') hn h htk (by omega) hp hC (fun M' a b c => ⟨rfl, hK M' (a.mono (wWm_pr (by omega))) b c⟩), trivial, ?_⟩
      rintro r M2 ⟨rfl, g⟩
      conv => whnf
      exact g
  have bars : tkK B n s.1 = 204 → GoS Ω true m_MD_tell K 120 [some (vR (some (12, 0)))] [] M 0 0 := fun htk => by
    rw [te_bar htk] at hK
    refine go_wp ok_MD_tell [139] 250 _ _ _ _ _ _ ?_
    conv => whnf
    rw [h20]
    refine And.intro (vp_in_nI (by omega) (by decide)) ?_
    rw [nI_clamp (by omega), h97]
    by_cases e8 : xb C = 8
    · refine And.intro (fun q => absurd (show nI (xb C) = nI 8 by rw [e8]) q) (fun _ => ?_)
      conv => whnf
      refine ⟨fun r M' => r = none ∧ Un wMe M M' ∧ PsM M' B n (.error (2, s.1)), c_MD_fail Ω M B n 2 _ _ (Or.inr rfl) h (fun M' a b => ⟨rfl, a, b⟩), trivial, ?_⟩
      rintro r M1 ⟨rfl, U1, P1⟩
      have e : baS B n s C = .error (2, s.1) := by unfold baS; rw [if_pos (by omega)]
      rw [e] at hK
      refine go_wp ok_MD_tell [] 250 _ _ _ _ _ _ ?_
      conv => whnf
      refine ⟨fun r M' => r = none ∧ M' = M1, c_MD_tellBarE Ω M1 B n _ _ P1 ⟨rfl, rfl⟩, trivial, ?_⟩
      rintro r M2 ⟨rfl, rfl⟩
      conv => whnf
      exact hK M2 (U1.mono wPr_me) P1 (fun r hr => by cases hr)
    · refine And.intro (fun _ => ?_) (fun q => absurd ((nI_eq (by omega) (by decide)).mp (show nI (xb C) = nI 8 from q)) e8)
      refine go_wp ok_MD_tell [] 250 _ _ _ _ _ _ ?_
      conv => whnf
      refine ⟨_, c_MD_tellBar Ω M B n p s C (fun r M' => r = none ∧ K none M') hn h htk (by omega) hp hC (fun M' a b c => ⟨rfl, hK M' a b c⟩), trivial, ?_⟩
      rintro r M2 ⟨rfl, g⟩
      conv => whnf
      exact g
  by_cases k0 : tkK B n s.1 = 200
  · rw [k0]
    exact And.intro (fun _ => laws 200 k0 (Or.inl rfl)) (fun q => absurd rfl q)
  by_cases k1 : tkK B n s.1 = 201
  · rw [k1]
    exact And.intro (fun q => absurd q (by decide)) (fun _ => And.intro (fun _ => laws 201 k1 (Or.inr rfl)) (fun q => absurd rfl q))
  by_cases k2 : tkK B n s.1 = 202
  · rw [k2]
    exact And.intro (fun q => absurd q (by decide)) (fun _ => And.intro (fun q => absurd q (by decide)) (fun _ => And.intro (fun _ => hinges k2) (fun q => absurd rfl q)))
  by_cases k3 : tkK B n s.1 = 203
  · rw [k3]
    exact And.intro (fun q => absurd q (by decide)) (fun _ => And.intro (fun q => absurd q (by decide)) (fun _ => And.intro (fun q => absurd q (by decide)) (fun _ => And.intro (fun _ => wings k3) (fun q => absurd rfl q))))
  by_cases k4 : tkK B n s.1 = 204
  · rw [k4]
    exact And.intro (fun q => absurd q (by decide)) (fun _ => And.intro (fun q => absurd q (by decide)) (fun _ => And.intro (fun q => absurd q (by decide)) (fun _ => And.intro (fun q => absurd q (by decide)) (fun _ => And.intro (fun _ => bars k4) (fun q => absurd rfl q)))))
  have hm := mk_20 (tkK_lt B n s.1) (tkK_kd B n s.1) (by omega)
  have mkv : mkK (tkK B n s.1) < 222 := mkK_lt _ (tkK_lt B n s.1)
  have ne : ∀ m, m < 222 → ¬ mkK (tkK B n s.1) = m → ¬ nI (mkK (tkK B n s.1)) = nI m := fun m hm c q => c ((nI_eq (by omega) (by omega)).mp q)
  refine And.intro (fun q => absurd q (ne 20 (by decide) hm.1)) (fun _ => And.intro (fun q => absurd q (ne 21 (by decide) hm.2.1)) (fun _ => And.intro (fun q => absurd q (ne 22 (by decide) hm.2.2.1)) (fun _ => And.intro (fun q => absurd q (ne 23 (by decide) hm.2.2.2.1)) (fun _ => And.intro (fun q => absurd q (ne 24 (by decide) hm.2.2.2.2)) (fun _ => ?_)))))
  refine go_wp ok_MD_tell [] 250 _ _ _ _ _ _ ?_
  conv => whnf
  have e : teS B n s C = .error (1, s.1) := by
    unfold teS
    rw [if_neg (by omega), if_neg k2, if_neg k3, if_neg k4]
  rw [e] at hK
  refine ⟨fun r M' => r = none ∧ Un wMe M M' ∧ PsM M' B n (.error (1, s.1)), c_MD_fail Ω M B n 1 _ _ (Or.inl rfl) h (fun M' a b => ⟨rfl, a, b⟩), trivial, ?_⟩
  rintro r M1 ⟨rfl, U1, P1⟩
  conv => whnf
  exact hK M1 (U1.mono wPr_me) P1 (fun r hr => by cases hr)
