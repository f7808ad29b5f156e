/-! READ: the model's reader: a law told -/
theorem PsM.t {M : Mem} {B : Nat → Nat} {n : Nat} {e : Except Fa Ps} (h : PsM M B n e) : ∃ t, t ≤ 500 ∧ mI M 12 0 11 = nI t ∧ ∀ s, e = .ok s → t = s.1 := by
  cases e with
  | error f =>
    obtain ⟨t, a, b⟩ := h.2.2.1
    exact ⟨t, a, b, fun s hs => by cases hs⟩
  | ok s => exact ⟨s.1, h.2.1.1.1, h.2.2.1, fun s' hs => by cases hs; rfl⟩
def wLm (p l k i s : Nat) : Bool := wLq p l k i s || (((Nat.beq k 75 || Nat.beq k 76) && Nat.beq s (8 * p + l)) || (Nat.beq k 74 && Nat.beq s p))
theorem wLm_lq {p l : Nat} : ∀ k i s, wLm p l k i s = false → wLq p l k i s = false := fun k i s q => (Bool.or_eq_false_iff.mp q).1
theorem wLm_mn {p l : Nat} : ∀ k i s, wLm p l k i s = false → wMn k i s = false := fun k i s q => wLq_mn k i s (wLm_lq k i s q)
theorem wLm_me {p l : Nat} : ∀ k i s, wLm p l k i s = false → wMe k i s = false := fun k i s q => wMn_me k i s (wLm_mn k i s q)
theorem wLm_1 {p l k0 q : Nat} (h : (k0 = 75 ∨ k0 = 76 ∨ k0 = 77) ∧ q = 8 * p + l ∨ k0 = 74 ∧ q = p) : ∀ k i s, wLm p l k i s = false → w1 k0 q k i s = false := mono_of (fun k i s g => by
  have : k = k0 ∧ s = q := by simpa [w1, nb_d] using g
  simp [wLm, wLq, wLk, wMn, nb_d, nl_d]
  omega)
theorem wLm_pr {p l : Nat} (hl : l < 8) : ∀ k i s, wPr p k i s = false → wLm p l k i s = false := mono_of (fun k i s h => by
  have q : (k = 12 ∧ (s = 11 ∨ (13 ≤ s ∧ s ≤ 16) ∨ s = 58)) ∨ ((k = 75 ∨ k = 76 ∨ k = 77) ∧ s = 8 * p + l) ∨ ((k = 78 ∨ k = 79) ∧ s / 8 = 8 * p + l) ∨ (k = 74 ∧ s = p) := by
    simp [wLm, wLq, wLk, wMn, nb_d, nl_d] at h
    omega
  rcases q with ⟨rfl, q⟩ | ⟨rfl | rfl | rfl, rfl⟩ | ⟨rfl | rfl, q⟩ | ⟨rfl, rfl⟩
  · simp [wPr, nb_d, nl_d]; omega
  · simp [wPr, nb_d, nl_d, psz, szf]; omega
  · simp [wPr, nb_d, nl_d, psz, szf]; omega
  · simp [wPr, nb_d, nl_d, psz, szf]; omega
  · simp [wPr, nb_d, nl_d, psz, szf]; omega
  · simp [wPr, nb_d, nl_d, psz, szf]; omega
  · simp [wPr, nb_d, nl_d, psz, szf])
theorem CtM.lw {M M' : Mem} {B : Nat → Nat} {n p so : Nat} {s : Ps} {C : Cn} {r : Ps × Cn} (h : CtM M p C s) (hr : lwS B n so s C = .ok r) (hm : Mo s r.1) (hU : Un (wLm p (xl C)) M M') (hx : xl C < 8) (h74 : mI M' 74 0 p = nI (xl C + 1)) (hP : PgX pgf M' p (xT r.2))
    (hN : r.1.2.2 = none → ∃ x, nmI (xN C) x = false ∧ mJ M' 75 0 (8 * p + xl C) = x ∧ xN r.2 = xN C ++ [(x, so, xl C)] ∧ (so = 200 ∧ mI M' 76 0 (8 * p + xl C) = 0 ∨ so = 201 ∧ mI M' 76 0 (8 * p + xl C) = 1)) : CtM M' p r.2 r.1 := by
  obtain ⟨⟨a1, a2⟩, ⟨b1, b2, b3, b4⟩, ⟨c1, c2, c3, c4⟩, d, e, lc, cc, ⟨f1, f2⟩, f3, f4, g⟩ := h
  obtain ⟨t1, ⟨t2, t3, t4, t5, t6⟩, -⟩ := lwS_T hr
  have hm1 := hm.1
  unfold CtM
  rw [t2, t3, t4, t5, t6]
  refine ⟨⟨(hU.I rfl).trans a1, (hU.I rfl).trans a2⟩, ⟨h74, (hU.I rfl).trans b2, (hU.I rfl).trans b3, (hU.I rfl).trans b4⟩, ⟨by omega, c2, c3, c4⟩, hP, fun hl => ⟨fun f a hf ha => ?_, ?_⟩, lc, cc, ⟨by omega, by omega⟩, (hU.I rfl).trans f3, (hU.I rfl).trans f4, fun b hb => ⟨(g b hb).1, ?_⟩⟩
  · have q := nmf_ge hf
    rw [hU.I (show wLm p (xl C) f 0 _ = false by rcases q with rfl | rfl | rfl <;> rfl), t1 f a (fun c => by omega) (fun c => by omega)]
    exact (e (hm.2 hl)).1 f a hf ha
  · obtain ⟨x, x1, x2, x3, x4⟩ := hN hl
    rw [x3]
    refine NmM.law1 ((e (hm.2 hl)).2.cg (fun k hk => ⟨hU.J (by simp [wLm, wLq, wLk, wMn, nb_d]; omega), hU.I (by simp [wLm, wLq, wLk, wMn, nb_d]; omega)⟩) (fun k _ => hU.J rfl) (fun k _ => hU.J rfl) (fun k _ => hU.J rfl)) x1 x2 x4
  · refine (g b hb).2.cg (Nat.le_refl _) (Nat.le_refl _) (fun k _ _ => hU.I (by simp [wLm, wLq, wLk, wMn, nb_d]; omega)) (fun k s _ _ _ => hU.I (by simp [wLm, wLq, wLk, wMn, nb_d]; omega)) (fun s _ => ⟨hU.I rfl, hU.I rfl⟩)
set_option maxHeartbeats 2000000 in
theorem ml_end {Ω : Om} {K : Ka} {B : Nat → Nat} {n p l tt : Nat} {M' : Mem} {e : Except Fa Ps} {a3 a4 a5 a6 : Option Vl} (hp : p < 4) (hl : l < 8) (ht : tt ≤ 500) (P : PsM M' B n e) (h20 : mI M' 12 0 20 = nI p) (h74 : mI M' 74 0 p = nI l)
    (hE : ∀ M2, Un wMe M' M2 → PsM M2 B n (eb e (tkS B n 59)) → (∃ f, eb e (tkS B n 59) = .error f) → K none M2)
    (hK : ∀ M2, Un wMe M' M2 → PsM M2 B n (eb e (tkS B n 59)) → (∃ s, eb e (tkS B n 59) = .ok s) → K none (sI (sJ M2 75 0 (8 * p + l) (mJ M2 72 0 tt)) 74 0 p (nI (l + 1)))) :
    GoS Ω true m_MD_tellLaw K 248 [some (vR (some (12, 0))), some (vI (nI (8 * p + l))), some (vI (nI tt)), a3, a4, a5, a6] [] M' 0 0 := by
  refine go_wp ok_MD_tellLaw [] 250 _ _ _ _ _ _ ?_
  conv => whnf
  refine ⟨fun r M2 => r = none ∧ Un wMe M' M2 ∧ PsM M2 B n (eb e (tkS B n 59)), c_MD_must Ω M' B n 59 4 _ _ rfl (by decide) rfl (by decide) P (fun M' a b => ⟨rfl, a, b⟩), trivial, ?_⟩
  rintro r M2 ⟨rfl, U2, P2⟩
  conv => whnf
  rcases rm_fault P2 with ⟨f, e1, e2, e3⟩ | ⟨s', e1, e2, e3⟩
  · refine And.intro (fun q => absurd q e3) (fun _ => ?_)
    exact hE M2 U2 P2 ⟨f, e1⟩
  refine And.intro (fun _ => ?_) (fun q => absurd (show mI M2 12 0 13 ≤ 0 by rw [e2]; decide) q)
  have m20 : mI M2 12 0 20 = nI p := (U2.I rfl).trans h20
  have m74 : mI M2 74 0 p = nI l := (U2.I rfl).trans h74
  have fin := hK M2 U2 P2 ⟨s', e1⟩
  conv => whnf
  refine And.intro (vp_in_nI (by omega) (by decide)) ?_
  rw [nI_clamp (by omega)]
  conv => whnf
  refine And.intro (vp_in_nI (by omega) (by decide)) ?_
  rw [nI_clamp (by omega)]
  generalize mJ M2 72 0 tt = x at fin
  have n20 : mI (sJ M2 75 0 (8 * p + l) x) 12 0 20 = nI p := m20
  have n74 : mI (sJ M2 75 0 (8 * p + l) x) 74 0 p = nI l := m74
  generalize sJ M2 75 0 (8 * p + l) x = Ma at fin n20 n74
  conv => whnf
  rw [n20]
  refine And.intro (vp_in_nI (by omega) (by decide)) ?_
  rw [nI_clamp (by omega), n74]
  conv => whnf
  rw [nI_1]
  refine And.intro (vp_in_nI (by omega) (by decide)) ?_
  rw [nI_clamp (by omega)]
  conv => whnf
  exact fin
theorem ml_chain {B : Nat → Nat} {n so : Nat} {s : Ps} {C : Cn} (hx : xl C < 8) :
    eb (lwS B n so s C) (fun r => .ok r.1) = eb (eb (eb (eb (eb (eb (tkS B n so s) fun s => nmS B n so (xl C) s (xN C)) fun r => .ok r.1) (tkS B n 58)) fun s => ptM B n (xl C) 9 0 s (upT (xT C) 77 (xl C) 0)) fun r => .ok r.1) (tkS B n 59) := by
  unfold lwS
  rw [if_neg (by omega)]
  cases tkS B n so s with
  | error f => rfl
  | ok s1 =>
    simp only [eb_k]
    cases nmS B n so (xl C) s1 (xN C) with
    | error f => rfl
    | ok r1 =>
      simp only [eb_k]
      cases tkS B n 58 r1.1 with
      | error f => rfl
      | ok s2 =>
        simp only [eb_k]
        rw [ptM_0]
        cases ptS B n (xl C) 0 s2 (upT (xT C) 77 (xl C) 0) with
        | error f => rfl
        | ok q1 =>
          simp only [eb_k]
          cases tkS B n 44 q1.1 with
          | error f => rfl
          | ok s3 =>
            simp only [eb_k]
            cases ptS B n (xl C) 1 s3 q1.2 with
            | error f => rfl
            | ok q2 =>
              simp only [eb_k]
              cases ptL B n (xl C) 7 2 q2.1 q2.2 with
              | error f => rfl
              | ok q3 =>
                simp only [eb_k]
                cases tkS B n 59 q3.1 with
                | error f => rfl
                | ok s4 => rfl
/-- what a law told comes to -/
theorem ml_parts {B : Nat → Nat} {n so : Nat} {s : Ps} {C : Cn} {r : Ps × Cn} (hx : xl C < 8) (h : lwS B n so s C = .ok r) :
    ∃ s1 r1 s2 q s4, tkS B n so s = .ok s1 ∧ nmS B n so (xl C) s1 (xN C) = .ok r1 ∧ tkS B n 58 r1.1 = .ok s2 ∧ ptM B n (xl C) 9 0 s2 (upT (xT C) 77 (xl C) 0) = .ok q ∧ tkS B n 59 q.1 = .ok s4 ∧ r = (s4, q.2, r1.2, (xl C + 1, xh C, xw C, xb C), xL C) ∧ (r.1.2.2 = none → r1.1.2.2 = none) := by
  unfold lwS at h
  rw [if_neg (by omega)] at h
  obtain ⟨s1, h1, h⟩ := eb_ok h
  obtain ⟨r1, h2, h⟩ := eb_ok h
  obtain ⟨s2, h3, h⟩ := eb_ok h
  obtain ⟨q1, h4, h⟩ := eb_ok h
  obtain ⟨s3, h5, h⟩ := eb_ok h
  obtain ⟨q2, h6, h⟩ := eb_ok h
  obtain ⟨q3, h7, h⟩ := eb_ok h
  obtain ⟨s4, h8, h⟩ := eb_ok h
  refine ⟨s1, r1, s2, q3, s4, h1, h2, h3, ?_, h8, ?_, fun hl => ?_⟩
  · rw [ptM_0, h4, eb_k, h5, eb_k, h6, eb_k, h7]
  · cases h; rfl
  · cases h
    exact (tkS_mo h3).1.2 ((ptS_mo h4).2 ((tkS_mo h5).1.2 ((ptS_mo h6).2 ((ptL_mo h7).2 ((tkS_mo h8).1.2 hl)))))
/-- a name told, when nothing late stands -/
theorem nm_told {B : Nat → Nat} {n so num : Nat} {s : Ps} {N : Nm} {r : Ps × Nm} (h : nmS B n so num s N = .ok r) (hl : r.1.2.2 = none) : tkK B n s.1 = 2 ∧ nmI N (tkV B n s.1) = false ∧ r.2 = N ++ [(tkV B n s.1, so, num)] := by
  obtain ⟨s1, h1, h2⟩ := eb_ok h
  obtain ⟨hk, _, rfl⟩ := tkS_ok h1
  cases h2
  have hb := (bl_none hl).1
  refine ⟨hk, hb, ?_⟩
  show (if nmI N (tkV B n s.1) = true then N else N ++ [(tkV B n s.1, so, num)]) = _
  rw [show nmI N (tkV B n s.1) = false from hb, if_neg (by decide)]
set_option maxHeartbeats 4000000 in
theorem c_MD_tellLaw (Ω : Om) (M : Mem) (B : Nat → Nat) (n p so : Nat) (s : Ps) (C : Cn) (K : Ka) (hn : n ≤ 2000) (h : PsM M B n (.ok s)) (htk : tkK B n s.1 = so) (hso : so = 200 ∨ so = 201) (hx : xl C < 8) (hp : p < 4) (hC : CtM M p C s)
    (hK : ∀ M', Un (wLm p (xl C)) M M' → PsM M' B n (eb (lwS B n so s C) fun r => .ok r.1) → (∀ r, lwS B n so s C = .ok r → CtM M' p r.2 r.1) → K none M') :
    CallS Ω true m_MD_tellLaw [vR (some (12, 0))] M K := by
  have h5 := h.2.1.1.1
  have hC0 := hC
  obtain ⟨⟨h20, -⟩, ⟨h74, h80, h84, h97⟩, ⟨-, hh, hw, hb⟩, hPg, hNm, -⟩ := hC0
  refine call_go (hJL rfl) (Nat.le_of_ble_eq_true rfl) (go_wp ok_MD_tellLaw [61] 250 _ _ _ _ _ _ ?_)
  refine And.intro (fun _ => ?_) (fun q => absurd (show mI M 12 0 13 ≤ 0 by rw [h.2.2.2.1]; decide) q)
  conv => whnf
  rw [h20]
  refine And.intro (vp_in_nI (by omega) (by decide)) ?_
  rw [nI_clamp (by omega), h74, show (8 : Int32) = nI 8 from rfl, pk_mul]
  conv => whnf
  rw [nI_add]
  refine cl_use (fun K h' => c_MD_is Ω M B n 201 21 (.ok s) K rfl (by decide) rfl h h') trivial ?_
  conv => whnf
  refine And.intro (vp_in_nI (by omega) (by decide)) (And.intro (bI_01 _) ?_)
  rw [nI_clamp (by omega)]
  have W0 : Un (w1 76 (8 * p + xl C)) M (sI M 76 0 (8 * p + xl C) (bI (isB B n 201 (.ok s)))) := w1_I
  have z76 : mI (sI M 76 0 (8 * p + xl C) (bI (isB B n 201 (.ok s)))) 76 0 (8 * p + xl C) = bI (isB B n 201 (.ok s)) := mI_eq
  generalize sI M 76 0 (8 * p + xl C) (bI (isB B n 201 (.ok s))) = Mz at W0 z76
  conv => whnf
  refine ⟨fun r M' => r = none ∧ Un wMe Mz M' ∧ PsM M' B n (tkS B n so s), c_MD_goesOn Ω Mz B n s _ (by rcases hso with c | c <;> omega) (h.c1 (by decide) W0) (fun M' a b => ⟨rfl, a, by unfold tkS; rw [if_pos htk]; exact b⟩), trivial, ?_⟩
  rintro r M1 ⟨rfl, U1, P1⟩
  conv => whnf
  have k20 : mI M1 12 0 20 = nI p := (U1.I rfl).trans ((W0.I rfl).trans h20)
  have k74 : mI M1 74 0 p = nI (xl C) := (U1.I rfl).trans ((W0.I rfl).trans h74)
  have hN1 : ∀ s', tkS B n so s = .ok s' → s'.2.2 = none → NmM M1 p (xN C) (xl C) (xh C) (xw C) (xb C) := fun s' hs hl => ((hNm ((tkS_mo hs).1.2 hl)).2.cg (fun k hk => ⟨W0.J rfl, W0.I (by simp [w1, nb_d]; omega)⟩) (fun k _ => W0.J rfl) (fun k _ => W0.J rfl) (fun k _ => W0.J rfl)).me U1
  obtain ⟨tt, t1, t2, t3⟩ := P1.t
  refine ⟨fun r M' => r = some (vI (mI M1 12 0 11)) ∧ Un wMe M1 M' ∧ PsM M' B n (eb (eb (tkS B n so s) fun s => nmS B n so (xl C) s (xN C)) fun r => .ok r.1), c_MD_named Ω M1 B n p so (xl C) (xl C) (xh C) (xw C) (xb C) (xN C) _ _ hn P1 hp k20 k74 ((U1.I rfl).trans ((W0.I rfl).trans h80)) ((U1.I rfl).trans ((W0.I rfl).trans h84)) ((U1.I rfl).trans ((W0.I rfl).trans h97)) (by omega) hh hw hb hN1 (fun M' a b => ⟨rfl, a, b⟩), trivial, ?_⟩
  rintro r M2 ⟨rfl, U2, P2⟩
  conv => whnf
  rw [t2]
  refine ⟨fun r M' => r = none ∧ Un wMe M2 M' ∧ PsM M' B n (eb (eb (eb (tkS B n so s) fun s => nmS B n so (xl C) s (xN C)) fun r => .ok r.1) (tkS B n 58)), c_MD_must Ω M2 B n 58 5 _ _ rfl (by decide) rfl (by decide) P2 (fun M' a b => ⟨rfl, a, b⟩), trivial, ?_⟩
  rintro r M3 ⟨rfl, U3, P3⟩
  conv => whnf
  refine And.intro (vp_in_nI (by omega) (by decide)) ?_
  rw [nI_clamp (by omega)]
  have W3 : Un (w1 77 (8 * p + xl C)) M3 (sI M3 77 0 (8 * p + xl C) 0) := w1_I
  have z77 : mI (sI M3 77 0 (8 * p + xl C) 0) 77 0 (8 * p + xl C) = nI 0 := mI_eq
  have hP4 : PgX pgf (sI M3 77 0 (8 * p + xl C) 0) p (upT (xT C) 77 (xl C) 0) := ((((hPg.c1 rfl W0).me (U1.mono wMn_me)).me (U2.mono wMn_me)).me (U3.mono wMn_me)).up rfl
  have P4 := P3.c1 (by decide) W3
  generalize sI M3 77 0 (8 * p + xl C) 0 = M4 at W3 z77 hP4 P4
  conv => whnf
  have ch := ml_chain (B := B) (n := n) (so := so) (s := s) hx
  have U04 : Un (wLm p (xl C)) M M4 := (W0.mono (wLm_1 (by omega))).trans ((U1.mono wLm_me).trans ((U2.mono wLm_me).trans ((U3.mono wLm_me).trans (W3.mono (wLm_1 (by omega))))))
  have q20 : mI M4 12 0 20 = nI p := (W3.I rfl).trans ((U3.I rfl).trans ((U2.I rfl).trans k20))
  have q74 : mI M4 74 0 p = nI (xl C) := (W3.I rfl).trans ((U3.I rfl).trans ((U2.I rfl).trans k74))
  have q76 : mI M4 76 0 (8 * p + xl C) = bI (isB B n 201 (.ok s)) := (W3.I rfl).trans ((U3.I rfl).trans ((U2.I rfl).trans ((U1.I rfl).trans z76)))
  have pts : ∀ r, lwS B n so s C = .ok r → ∃ s1 r1 s2 q s4, tkS B n so s = .ok s1 ∧ nmS B n so (xl C) s1 (xN C) = .ok r1 ∧ (eb (eb (eb (tkS B n so s) fun s => nmS B n so (xl C) s (xN C)) fun r => .ok r.1) (tkS B n 58)) = .ok s2 ∧ ptM B n (xl C) 9 0 s2 (upT (xT C) 77 (xl C) 0) = .ok q ∧ r = (s4, q.2, r1.2, (xl C + 1, xh C, xw C, xb C), xL C) ∧ (r.1.2.2 = none → r1.1.2.2 = none) := fun r hr => by
    obtain ⟨s1, r1, s2, q, s4, g1, g2, g3, g4, g5, g6, g7⟩ := ml_parts hx hr
    exact ⟨s1, r1, s2, q, s4, g1, g2, by rw [g1, eb_k, g2, eb_k, eb_k, g3], g4, g6, g7⟩
  generalize (eb (eb (eb (tkS B n so s) fun s => nmS B n so (xl C) s (xN C)) fun r => .ok r.1) (tkS B n 58)) = E3 at P4 ch pts
  have fin : ∀ M' a3 a4 a5 a6, Un (wLq p (xl C)) M4 M' → PsM M' B n (eb (eb E3 fun s => ptM B n (xl C) 9 0 s (upT (xT C) 77 (xl C) 0)) fun r => .ok r.1) → (∀ r, (eb E3 fun s => ptM B n (xl C) 9 0 s (upT (xT C) 77 (xl C) 0)) = .ok r → PgX pgf M' p r.2) → GoS Ω true m_MD_tellLaw K 248 [some (vR (some (12, 0))), some (vI (nI (8 * p + xl C))), some (vI (nI tt)), a3, a4, a5, a6] [] M' 0 0 := fun M' a3 a4 a5 a6 U' P' G' => by
    refine ml_end hp hx t1 P' ((U'.I rfl).trans q20) ((U'.I rfl).trans q74) (fun M5 U5 P5 hf => ?_) (fun M5 U5 P5 hs => ?_)
    · obtain ⟨f, hf⟩ := hf
      refine hK M5 (U04.trans ((U'.mono wLm_lq).trans (U5.mono wLm_me))) (by rw [ch]; exact P5) (fun r hr => ?_)
      rw [hr, eb_k, hf] at ch
      cases ch
    · have V1 : Un (w1 75 (8 * p + xl C)) M5 (sJ M5 75 0 (8 * p + xl C) (mJ M5 72 0 tt)) := w1_J
      have z75 : mJ (sJ M5 75 0 (8 * p + xl C) (mJ M5 72 0 tt)) 75 0 (8 * p + xl C) = mJ M5 72 0 tt := by rw [mJ_sJ, if_pos ⟨rfl, rfl, rfl⟩]
      generalize sJ M5 75 0 (8 * p + xl C) (mJ M5 72 0 tt) = M6 at V1 z75
      have V2 : Un (w1 74 p) M6 (sI M6 74 0 p (nI (xl C + 1))) := w1_I
      have z74 : mI (sI M6 74 0 p (nI (xl C + 1))) 74 0 p = nI (xl C + 1) := mI_eq
      generalize sI M6 74 0 p (nI (xl C + 1)) = M7 at V2 z74
      have Uf : Un (wLm p (xl C)) M M7 := U04.trans ((U'.mono wLm_lq).trans ((U5.mono wLm_me).trans ((V1.mono (wLm_1 (by omega))).trans (V2.mono (wLm_1 (by omega))))))
      refine hK M7 Uf (by rw [ch]; exact (P5.c1 (by decide) V1).c1 (by decide) V2) (fun r hr => ?_)
      obtain ⟨s1, r1, s2, q, s4, g1, g2, g3, g4, g6, g7⟩ := pts r hr
      have hm := (teS_mo (show teS B n s C = .ok r by unfold teS; rw [if_pos (by rw [htk]; exact hso), htk]; exact hr)).1
      refine hC.lw hr hm Uf hx z74 ?_ (fun hl => ?_)
      · have := G' q (by rw [g3, eb_k]; exact g4)
        have := ((this.me (U5.mono wMn_me)).c1 rfl V1).c1 rfl V2
        rw [g6]
        exact this
      · obtain ⟨y1, y2, y3⟩ := nm_told g2 (g7 hl)
        have et := t3 s1 g1
        rw [g1] at P1
        refine ⟨tkV B n s1.1, y2, ?_, ?_, ?_⟩
        · rw [V2.J rfl, z75, et]
          exact (P5.1 s1.1 P1.2.1.1).2.2.2 y1
        · rw [g6]; exact y3
        · have e76 : mI M7 76 0 (8 * p + xl C) = bI (isB B n 201 (.ok s)) := (V2.I rfl).trans ((V1.I rfl).trans ((U5.I rfl).trans ((U'.I rfl).trans q76)))
          rw [e76]
          rcases hso with c | c
          · refine Or.inl ⟨c, ?_⟩
            rw [show isB B n 201 (.ok s) = false from decide_eq_false (by omega)]
            rfl
          · refine Or.inr ⟨c, ?_⟩
            rw [show isB B n 201 (.ok s) = true from decide_eq_true (by omega)]
            rfl
  cases E3 with
  | error f => exact ml_out (Or.inr ⟨f, rfl⟩) P4 (fin M4 _ _ _ _ Un.rfl P4 (fun r hr => by cases hr))
  | ok s2 =>
    refine ml_loop hn hp hx (tl := ptM B n (xl C) 9 0 s2 (upT (xT C) 77 (xl C) 0)) fin (fun M' f U' P' hf => ?_) 8 0 s2 (upT (xT C) 77 (xl C) 0) M4 _ _ _ (by decide) Un.rfl P4 hP4 z77 (fun c => absurd c (by decide)) rfl
    refine hK M' (U04.trans (U'.mono wLm_lq)) ?_ (fun r hr => ?_)
    · rw [ch, eb_k, hf]
      exact P'
    · rw [hr, eb_k, eb_k, hf] at ch
      cases ch
