/-! READ: the model's reader: a wing told -/
def wWm (p w k i s : Nat) : Bool := (wSs p w k i s || wMr p w k i s) || ((Nat.beq k 85 && Nat.beq s (4 * p + w)) || (Nat.beq k 84 && Nat.beq s p))
theorem wWm_ss {p w : Nat} : ∀ k i s, wWm p w k i s = false → wSs p w k i s = false := fun k i s q => (Bool.or_eq_false_iff.mp (Bool.or_eq_false_iff.mp q).1).1
theorem wWm_mr {p w : Nat} : ∀ k i s, wWm p w k i s = false → wMr p w k i s = false := fun k i s q => (Bool.or_eq_false_iff.mp (Bool.or_eq_false_iff.mp q).1).2
theorem wWm_mn {p w : Nat} : ∀ k i s, wWm p w k i s = false → wMn k i s = false := fun k i s q => wSs_mn k i s (wWm_ss k i s q)
theorem wWm_me {p w : Nat} : ∀ k i s, wWm p w k i s = false → wMe k i s = false := fun k i s q => wMn_me k i s (wWm_mn k i s q)
theorem wWm_85 {p w : Nat} : ∀ k i s, wWm p w k i s = false → w1 85 (4 * p + w) k i s = false := fun k i s q => (Bool.or_eq_false_iff.mp (Bool.or_eq_false_iff.mp q).2).1
theorem wWm_84 {p w : Nat} : ∀ k i s, wWm p w k i s = false → w1 84 p k i s = false := fun k i s q => (Bool.or_eq_false_iff.mp (Bool.or_eq_false_iff.mp q).2).2
theorem wWm_86 {p w : Nat} : ∀ k i s, wWm p w k i s = false → w1 86 (4 * p + w) k i s = false := fun k i s q => wSs_86 k i s (wWm_ss k i s q)
theorem wWm_is {p w k i s : Nat} (h : wWm p w k i s = true) : (k = 12 ∧ (s = 11 ∨ (13 ≤ s ∧ s ≤ 16) ∨ s = 58)) ∨ (92 ≤ k ∧ k ≤ 96 ∧ s / 10 = 4 * p + w) ∨ (85 ≤ k ∧ k ≤ 90 ∧ s = 4 * p + w) ∨ (k = 91 ∧ s / 4 = 4 * p + w) ∨ (k = 84 ∧ s = p) := by
  simp [wWm, wSs, wSq2, wSk, wMr, wMn, nb_d, nl_d] at h
  omega
theorem wWm_pr {p w : Nat} (hw : w < 4) : ∀ k i s, wPr p k i s = false → wWm p w k i s = false := mono_of (fun k i s h => by
  rcases wWm_is h with ⟨rfl, q⟩ | ⟨q1, q2, q⟩ | ⟨q1, q2, rfl⟩ | ⟨rfl, q⟩ | ⟨rfl, rfl⟩
  · simp [wPr, nb_d, nl_d]; omega
  · rcases (show k = 92 ∨ k = 93 ∨ k = 94 ∨ k = 95 ∨ k = 96 by omega) with rfl | rfl | rfl | rfl | rfl <;> (simp [wPr, nb_d, nl_d, psz, szf]; omega)
  · rcases (show k = 85 ∨ k = 86 ∨ k = 87 ∨ k = 88 ∨ k = 89 ∨ k = 90 by omega) with rfl | rfl | rfl | rfl | rfl | rfl <;> (simp [wPr, nb_d, nl_d, psz, szf]; omega)
  · simp [wPr, nb_d, nl_d, psz, szf]; omega
  · simp [wPr, nb_d, nl_d, psz, szf])
theorem CtM.wi {M M' : Mem} {B : Nat → Nat} {n p : Nat} {s : Ps} {C : Cn} {r : Ps × Cn} (h : CtM M p C s) (hr : wiS B n s C = .ok r) (hm : Mo s r.1) (hU : Un (wWm p (xw C)) M M') (hx : xw C < 4) (h84 : mI M' 84 0 p = nI (xw C + 1)) (hP : PgX pgf M' p (xT r.2)) (hQ : r.1.2.2 = none → PgX nmf M' p (xT r.2))
    (hN : r.1.2.2 = none → ∃ x, nmI (xN C) x = false ∧ mJ M' 85 0 (4 * p + xw C) = x ∧ xN r.2 = xN C ++ [(x, 203, xw C)]) : CtM M' p r.2 r.1 := by
  obtain ⟨⟨a1, a2⟩, ⟨b1, b2, b3, b4⟩, ⟨c1, c2, c3, c4⟩, d, e, lc, cc, ⟨f1, f2⟩, f3, f4, g⟩ := h
  obtain ⟨t1, ⟨t2, t3, t4, t5, t6⟩, -⟩ := wiS_T hr
  have hm1 := hm.1
  have no : ∀ {k i s : Nat}, ¬ ((k = 12 ∧ (s = 11 ∨ (13 ≤ s ∧ s ≤ 16) ∨ s = 58)) ∨ (92 ≤ k ∧ k ≤ 96 ∧ s / 10 = 4 * p + xw C) ∨ (85 ≤ k ∧ k ≤ 90 ∧ s = 4 * p + xw C) ∨ (k = 91 ∧ s / 4 = 4 * p + xw C) ∨ (k = 84 ∧ s = p)) → wWm p (xw C) k i s = false := fun {k i s} q => Bool.eq_false_iff.mpr (fun z => q (wWm_is z))
  unfold CtM
  rw [t2, t3, t4, t5, t6]
  refine ⟨⟨(hU.I (no (by omega))).trans a1, (hU.I (no (by omega))).trans a2⟩, ⟨(hU.I (no (by omega))).trans b1, (hU.I (no (by omega))).trans b2, h84, (hU.I (no (by omega))).trans b4⟩, ⟨c1, c2, by omega, c4⟩, hP, fun hl => ⟨hQ hl, ?_⟩, lc, cc, ⟨by omega, by omega⟩, (hU.I (no (by omega))).trans f3, (hU.I (no (by omega))).trans f4, fun b hb => ⟨(g b hb).1, ?_⟩⟩
  · obtain ⟨x, x1, x2, x3⟩ := hN hl
    rw [x3]
    refine NmM.win1 ((e (hm.2 hl)).2.cg (fun k hk => ⟨hU.J (no (by omega)), hU.I (no (by omega))⟩) (fun k _ => hU.J (no (by omega))) (fun k hk => hU.J (no (by omega))) (fun k _ => hU.J (no (by omega)))) x1 x2
  · refine (g b hb).2.cg (Nat.le_refl _) (Nat.le_refl _) (fun k _ _ => hU.I (no (by omega))) (fun k s _ _ _ => hU.I (no (by omega))) (fun s _ => ⟨hU.I (no (by omega)), hU.I (no (by omega))⟩)
theorem mk_no {Ω : Om} {K : Ka} {B : Nat → Nat} {n k : Nat} {tt : Int32} {M : Mem} {e : Except Fa Ps} {a3 a4 : Option Vl} (P : PsM M B n e) (hb : ∀ due, due = 205 ∨ due = 206 ∨ due = 207 ∨ due = 208 → isB B n due e = false)
    (hN : GoS Ω true m_MD_tellWing K 307 [some (vR (some (12, 0))), some (vI (nI k)), some (vI tt), a3, a4] [] M 0 0) : GoS Ω true m_MD_tellWing K 263 [some (vR (some (12, 0))), some (vI (nI k)), some (vI tt), a3, a4] [] M 0 0 := by
  refine go_wp ok_MD_tellWing [299, 307] 250 _ _ _ _ _ _ ?_
  conv => whnf
  refine cl_use (fun K h' => c_MD_is Ω M B n 205 25 _ K rfl (by decide) rfl P h') trivial ?_
  rw [hb 205 (by decide)]
  refine And.intro (fun q => absurd rfl q) (fun _ => ?_)
  conv => whnf
  refine cl_use (fun K h' => c_MD_is Ω M B n 206 26 _ K rfl (by decide) rfl P h') trivial ?_
  rw [hb 206 (by decide)]
  refine And.intro (fun q => absurd rfl q) (fun _ => ?_)
  conv => whnf
  refine cl_use (fun K h' => c_MD_is Ω M B n 207 27 _ K rfl (by decide) rfl P h') trivial ?_
  rw [hb 207 (by decide)]
  refine And.intro (fun q => absurd rfl q) (fun _ => ?_)
  conv => whnf
  refine cl_use (fun K h' => c_MD_is Ω M B n 208 28 _ K rfl (by decide) rfl P h') trivial ?_
  rw [hb 208 (by decide)]
  exact And.intro (fun _ => hN) (fun q => absurd rfl q)
theorem isMk_e {k : Nat} : isMk k = true ↔ k = 205 ∨ k = 206 ∨ k = 207 ∨ k = 208 := by
  simp [isMk, nl_d]
  omega
set_option maxHeartbeats 2000000 in
theorem mw_more {Ω : Om} {K : Ka} {M0 : Mem} {B : Nat → Nat} {n p w : Nat} {tt : Int32} {a3 a4 : Option Vl} (hn : n ≤ 2000) (hp : p < 4) (hw : w < 4) {tl : Except Fa (Ps × Tx)}
    (hN : ∀ M', Un (wMr p w) M0 M' → PsM M' B n (eb tl fun r => .ok r.1) → (∀ r, tl = .ok r → PgX pgf M' p r.2) → GoS Ω true m_MD_tellWing K 307 [some (vR (some (12, 0))), some (vI (nI (4 * p + w))), some (vI tt), a3, a4] [] M' 0 0) :
    ∀ (f : Nat) (s : Ps) (T : Tx) (M : Mem), 501 ≤ f + s.1 → Un (wMr p w) M0 M → PsM M B n (.ok s) → PgX pgf M p T → mkL B n w f s T = tl →
      GoS Ω true m_MD_tellWing K 263 [some (vR (some (12, 0))), some (vI (nI (4 * p + w))), some (vI tt), a3, a4] [] M 0 0 := by
  intro f
  induction f with
  | zero =>
    intro s T M hf hU h hP htl
    have := h.2.1.1.1
    omega
  | succ f ih =>
    intro s T M hf hU h hP htl
    rw [mkL] at htl
    have more : ∀ so, tkK B n s.1 = so → (so = 205 ∨ so = 206 ∨ so = 207 ∨ so = 208) → GoS Ω true m_MD_tellWing K 299 [some (vR (some (12, 0))), some (vI (nI (4 * p + w))), some (vI tt), a3, a4] [] M 0 0 := fun so hk hso => by
      rw [hk, if_pos (isMk_e.mpr hso)] at htl
      refine go_wp ok_MD_tellWing [263] 250 _ _ _ _ _ _ ?_
      conv => whnf
      refine ⟨fun r M' => r = none ∧ Un (wMr p w) M M' ∧ PsM M' B n (eb (mkS B n w so s T) fun r => .ok r.1) ∧ (∀ r, mkS B n w so s T = .ok r → PgX pgf M' p r.2), c_MD_tellMore Ω M B n p w so s T _ hn hp hw h hk hso hP (fun M' a b c => ⟨rfl, a, b, c⟩), trivial, ?_⟩
      rintro r M1 ⟨rfl, U1, P1, G1⟩
      conv => whnf
      cases hm : mkS B n w so s T with
      | error f0 =>
        rw [hm] at P1 htl
        exact mk_no P1 (fun _ _ => rfl) (hN M1 (hU.trans U1) (by rw [← htl]; exact P1) (fun r hr => by rw [← htl] at hr; cases hr))
      | ok r =>
        rw [hm] at P1 htl
        exact ih r.1 r.2 M1 (by have := (mkS_mo hm).2; omega) (hU.trans U1) P1 (G1 r hm) htl
    by_cases hmk : isMk (tkK B n s.1) = true
    · have hso := isMk_e.mp hmk
      refine go_wp ok_MD_tellWing [299] 250 _ _ _ _ _ _ ?_
      conv => whnf
      refine cl_use (fun K h' => c_MD_is Ω M B n 205 25 _ K rfl (by decide) rfl h h') trivial ?_
      refine br_bn (fun _ => more _ rfl hso) (fun c5 => ?_)
      conv => whnf
      refine cl_use (fun K h' => c_MD_is Ω M B n 206 26 _ K rfl (by decide) rfl h h') trivial ?_
      refine br_bn (fun _ => more _ rfl hso) (fun c6 => ?_)
      conv => whnf
      refine cl_use (fun K h' => c_MD_is Ω M B n 207 27 _ K rfl (by decide) rfl h h') trivial ?_
      refine br_bn (fun _ => more _ rfl hso) (fun c7 => ?_)
      conv => whnf
      refine cl_use (fun K h' => c_MD_is Ω M B n 208 28 _ K rfl (by decide) rfl h h') trivial ?_
      refine br_bz (fun c8 => ?_) (fun _ => more _ rfl hso)
      have c5 : ¬ tkK B n s.1 = 205 := of_decide_eq_false c5
      have c6 : ¬ tkK B n s.1 = 206 := of_decide_eq_false c6
      have c7 : ¬ tkK B n s.1 = 207 := of_decide_eq_false c7
      have c8 : ¬ tkK B n s.1 = 208 := of_decide_eq_false c8
      omega
    · rw [if_neg hmk] at htl
      refine mk_no h (fun due hd => ?_) (hN M hU (by rw [← htl]; exact h) (fun r hr => by rw [← htl] at hr; cases hr; exact hP))
      refine decide_eq_false (fun e => hmk ?_)
      rw [e]
      exact isMk_e.mpr hd
set_option maxHeartbeats 2000000 in
theorem mw_end {Ω : Om} {K : Ka} {B : Nat → Nat} {n p w tt : Nat} {M' : Mem} {e : Except Fa Ps} {a3 a4 : Option Vl} (hp : p < 4) (hw : w < 4) (ht : tt ≤ 500) (P : PsM M' B n e) (h20 : mI M' 12 0 20 = nI p) (h84 : mI M' 84 0 p = nI w)
    (hE : ∀ M2, Un wMe M' M2 → PsM M2 B n (eb e (tkS B n 59)) → (∃ f, eb e (tkS B n 59) = .error f) → K none M2)
    (hK : ∀ M2, Un wMe M' M2 → PsM M2 B n (eb e (tkS B n 59)) → (∃ s, eb e (tkS B n 59) = .ok s) → K none (sI (sJ M2 85 0 (4 * p + w) (mJ M2 72 0 tt)) 84 0 p (nI (w + 1)))) :
    GoS Ω true m_MD_tellWing K 307 [some (vR (some (12, 0))), some (vI (nI (4 * p + w))), some (vI (nI tt)), a3, a4] [] M' 0 0 := by
  refine go_wp ok_MD_tellWing [] 250 _ _ _ _ _ _ ?_
  conv => whnf
  refine ⟨fun r M2 => r = none ∧ Un wMe M' M2 ∧ PsM M2 B n (eb e (tkS B n 59)), c_MD_must Ω M' B n 59 4 _ _ rfl (by decide) rfl (by decide) P (fun M' a b => ⟨rfl, a, b⟩), trivial, ?_⟩
  rintro r M2 ⟨rfl, U2, P2⟩
  conv => whnf
  rcases rm_fault P2 with ⟨f, e1, e2, e3⟩ | ⟨s', e1, e2, e3⟩
  · refine And.intro (fun q => absurd q e3) (fun _ => ?_)
    exact hE M2 U2 P2 ⟨f, e1⟩
  refine And.intro (fun _ => ?_) (fun q => absurd (show mI M2 12 0 13 ≤ 0 by rw [e2]; decide) q)
  have m20 : mI M2 12 0 20 = nI p := (U2.I rfl).trans h20
  have m74 : mI M2 84 0 p = nI w := (U2.I rfl).trans h84
  have fin := hK M2 U2 P2 ⟨s', e1⟩
  conv => whnf
  refine And.intro (vp_in_nI (by omega) (by decide)) ?_
  rw [nI_clamp (by omega)]
  conv => whnf
  refine And.intro (vp_in_nI (by omega) (by decide)) ?_
  rw [nI_clamp (by omega)]
  generalize mJ M2 72 0 tt = x at fin
  have n20 : mI (sJ M2 85 0 (4 * p + w) x) 12 0 20 = nI p := m20
  have n74 : mI (sJ M2 85 0 (4 * p + w) x) 84 0 p = nI w := m74
  generalize sJ M2 85 0 (4 * p + w) x = Ma at fin n20 n74
  conv => whnf
  rw [n20]
  refine And.intro (vp_in_nI (by omega) (by decide)) ?_
  rw [nI_clamp (by omega), n74]
  conv => whnf
  rw [nI_1]
  refine And.intro (vp_in_nI (by omega) (by decide)) ?_
  rw [nI_clamp (by omega)]
  conv => whnf
  exact fin
