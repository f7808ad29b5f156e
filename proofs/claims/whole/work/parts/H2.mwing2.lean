/-! READ: the model's reader: a wing told, II -/
theorem nm_nmF {B : Nat → Nat} {n num : Nat} {s : Ps} {N : Nm} {r : Ps × Nm} (h : nmS B n 203 num s N = .ok r) : ∀ x so, ¬ so = 203 → ¬ so = 204 → nmF r.2 x so = nmF N x so := by
  obtain ⟨s1, h1, h2⟩ := eb_ok h
  cases h2
  intro x so h3 h4
  show nmF (if nmI N (tkV B n s1.2.1) = true then N else N ++ [(tkV B n s1.2.1, 203, num)]) x so = nmF N x so
  split
  · rfl
  · unfold nmF
    rw [List.find?_append]
    cases hf : N.find? (fun q => decide (q.1 = x)) with
    | some q => rfl
    | none =>
      by_cases c : tkV B n s1.2.1 = x
      · have : [((tkV B n s1.2.1, 203, num) : Int64 × Nat × Nat)].find? (fun q => decide (q.1 = x)) = some (tkV B n s1.2.1, 203, num) := by
          rw [List.find?_cons, decide_eq_true c]
        rw [this]
        show (if (203 : Nat) = so then some num else none) = none
        rw [if_neg (fun e => h3 e.symm)]
      · have : [((tkV B n s1.2.1, 203, num) : Int64 × Nat × Nat)].find? (fun q => decide (q.1 = x)) = none := by
          rw [List.find?_cons, decide_eq_false c]
          rfl
        rw [this]
        rfl
theorem mw_chain {B : Nat → Nat} {n : Nat} {s : Ps} {C : Cn} (hx : xw C < 4) :
    eb (wiS B n s C) (fun r => .ok r.1) = eb (eb (eb (eb (eb (eb (tkS B n 203 s) fun s => nmS B n 203 (xw C) s (xN C)) fun r => eb (tkS B n 58 r.1) fun s => .ok (s, r.2)) fun r => stM B n (xw C) r.2 11 0 r.1 (upT (xT C) 86 (xw C) 0)) fun r => mkL B n (xw C) 501 r.1 (deT r.2 (xw C))) fun r => .ok r.1) (tkS B n 59) := by
  unfold wiS
  rw [if_neg (by omega)]
  cases tkS B n 203 s with
  | error f => rfl
  | ok s1 =>
    simp only [eb_k]
    cases nmS B n 203 (xw C) s1 (xN C) with
    | error f => rfl
    | ok r1 =>
      simp only [eb_k]
      cases tkS B n 58 r1.1 with
      | error f => rfl
      | ok s2 =>
        simp only [eb_k]
        rw [stM_0]
        cases stpS B n (xw C) 0 r1.2 s2 (upT (xT C) 86 (xw C) 0) with
        | error f => rfl
        | ok q1 =>
          simp only [eb_k]
          cases stpL B n (xw C) r1.2 10 1 q1.1 q1.2 with
          | error f => rfl
          | ok q2 =>
            simp only [eb_k]
            cases mkL B n (xw C) 501 q2.1 (deT q2.2 (xw C)) with
            | error f => rfl
            | ok q3 =>
              simp only [eb_k]
              cases tkS B n 59 q3.1 with
              | error f => rfl
              | ok s4 => rfl
/-- what a wing told comes to -/
theorem mw_parts {B : Nat → Nat} {n : Nat} {s : Ps} {C : Cn} {r : Ps × Cn} (hx : xw C < 4) (h : wiS B n s C = .ok r) :
    ∃ s1 r1 s2 q q3 s4, tkS B n 203 s = .ok s1 ∧ nmS B n 203 (xw C) s1 (xN C) = .ok r1 ∧ tkS B n 58 r1.1 = .ok s2 ∧ stM B n (xw C) r1.2 11 0 s2 (upT (xT C) 86 (xw C) 0) = .ok q ∧ mkL B n (xw C) 501 q.1 (deT q.2 (xw C)) = .ok q3 ∧ tkS B n 59 q3.1 = .ok s4 ∧ r = (s4, q3.2, r1.2, (xl C, xh C, xw C + 1, xb C), xL C) ∧ (r.1.2.2 = none → r1.1.2.2 = none ∧ q.1.2.2 = none) := by
  unfold wiS at h
  rw [if_neg (by omega)] at h
  obtain ⟨s1, h1, h⟩ := eb_ok h
  obtain ⟨r1, h2, h⟩ := eb_ok h
  obtain ⟨s2, h3, h⟩ := eb_ok h
  obtain ⟨q1, h4, h⟩ := eb_ok h
  obtain ⟨q2, h5, h⟩ := eb_ok h
  obtain ⟨q3, h6, h⟩ := eb_ok h
  obtain ⟨s4, h8, h⟩ := eb_ok h
  refine ⟨s1, r1, s2, q2, q3, s4, h1, h2, h3, ?_, h6, h8, ?_, fun hl => ?_⟩
  · rw [stM_0, h4, eb_k, h5]
  · cases h; rfl
  · cases h
    have l2 := (mkL_mo h6).2 ((tkS_mo h8).1.2 hl)
    exact ⟨(tkS_mo h3).1.2 ((stpS_mo h4).2 ((stpL_mo h5).2 l2)), l2⟩
theorem mw_fst {B : Nat → Nat} {n : Nat} {e : Except Fa (Ps × Nm)} : (eb (eb e fun r => eb (tkS B n 58 r.1) fun s => .ok (s, r.2)) fun r => .ok r.1) = eb (eb e fun r => .ok r.1) (tkS B n 58) := by
  cases e with
  | error f => rfl
  | ok r =>
    simp only [eb_k]
    cases tkS B n 58 r.1 with
    | error f => rfl
    | ok s => rfl
set_option maxHeartbeats 2000000 in
/-- from behind the strips to the end -/
theorem mw_de {Ω : Om} {K : Ka} {B : Nat → Nat} {n p w : Nat} {tt : Int32} {M : Mem} {e : Except Fa (Ps × Tx)} {a3 a4 : Option Vl} (hp : p < 4) (hw : w < 4) (hn : n ≤ 2000) (P : PsM M B n (eb e fun r => .ok r.1)) (G : ∀ r, e = .ok r → PgX pgf M p r.2)
    (hN : ∀ M', Un (wMr p w) M M' → PsM M' B n (eb (eb e fun r => mkL B n w 501 r.1 (deT r.2 w)) fun r => .ok r.1) → (∀ r, (eb e fun r => mkL B n w 501 r.1 (deT r.2 w)) = .ok r → PgX pgf M' p r.2) → GoS Ω true m_MD_tellWing K 307 [some (vR (some (12, 0))), some (vI (nI (4 * p + w))), some (vI tt), a3, a4] [] M' 0 0) :
    GoS Ω true m_MD_tellWing K 233 [some (vR (some (12, 0))), some (vI (nI (4 * p + w))), some (vI tt), a3, a4] [] M 0 0 := by
  refine go_wp ok_MD_tellWing [263] 250 _ _ _ _ _ _ ?_
  conv => whnf
  refine And.intro (vp_in_nI (by omega) (by decide)) ?_
  rw [nI_clamp (by omega)]
  have Q1 : Un (w1 87 (4 * p + w)) M (sI M 87 0 (4 * p + w) 200) := w1_I
  have z1 : mI (sI M 87 0 (4 * p + w) 200) 87 0 (4 * p + w) = 200 := mI_eq
  generalize sI M 87 0 (4 * p + w) 200 = M1 at Q1 z1
  conv => whnf
  refine And.intro (vp_in_nI (by omega) (by decide)) ?_
  rw [nI_clamp (by omega)]
  have Q2 : Un (w1 88 (4 * p + w)) M1 (sI M1 88 0 (4 * p + w) 0) := w1_I
  have z2 : mI (sI M1 88 0 (4 * p + w) 0) 88 0 (4 * p + w) = 0 := mI_eq
  generalize sI M1 88 0 (4 * p + w) 0 = M2 at Q2 z2
  conv => whnf
  refine And.intro (vp_in_nI (by omega) (by decide)) ?_
  rw [nI_clamp (by omega)]
  have Q3 : Un (w1 89 (4 * p + w)) M2 (sI M2 89 0 (4 * p + w) 0) := w1_I
  have z3 : mI (sI M2 89 0 (4 * p + w) 0) 89 0 (4 * p + w) = 0 := mI_eq
  generalize sI M2 89 0 (4 * p + w) 0 = M3 at Q3 z3
  conv => whnf
  refine And.intro (vp_in_nI (by omega) (by decide)) (And.intro (Or.inl rfl) ?_)
  rw [nI_clamp (by omega)]
  have Q4 : Un (w1 90 (4 * p + w)) M3 (sI M3 90 0 (4 * p + w) 0) := w1_I
  have z4 : mI (sI M3 90 0 (4 * p + w) 0) 90 0 (4 * p + w) = 0 := mI_eq
  generalize sI M3 90 0 (4 * p + w) 0 = M4 at Q4 z4
  conv => whnf
  have U4 : Un (wMr p w) M M4 := (Q1.mono (wMr_1 (by decide) (by decide))).trans ((Q2.mono (wMr_1 (by decide) (by decide))).trans ((Q3.mono (wMr_1 (by decide) (by decide))).trans (Q4.mono (wMr_1 (by decide) (by decide)))))
  have P4 := (((P.c1 (by decide) Q1).c1 (by decide) Q2).c1 (by decide) Q3).c1 (by decide) Q4
  have G4 : ∀ r, e = .ok r → PgX pgf M4 p (deT r.2 w) := fun r hr => ((((G r hr).u1 Q1 z1 rfl).u1 Q2 z2 rfl).u1 Q3 z3 rfl).u1 Q4 z4 rfl
  cases e with
  | error f => exact mk_no P4 (fun _ _ => rfl) (hN M4 U4 P4 (fun r hr => by cases hr))
  | ok r =>
    refine mw_more (M0 := M4) (tl := mkL B n w 501 r.1 (deT r.2 w)) hn hp hw (fun M' U' P' G' => ?_) 501 r.1 (deT r.2 w) M4 (by omega) Un.rfl P4 (G4 r rfl) rfl
    exact hN M' (U4.trans U') P' G'
set_option maxHeartbeats 4000000 in
theorem c_MD_tellWing (Ω : Om) (M : Mem) (B : Nat → Nat) (n p : Nat) (s : Ps) (C : Cn) (K : Ka) (hn : n ≤ 2000) (h : PsM M B n (.ok s)) (htk : tkK B n s.1 = 203) (hx : xw C < 4) (hp : p < 4) (hC : CtM M p C s)
    (hK : ∀ M', Un (wWm p (xw C)) M M' → PsM M' B n (eb (wiS B n s C) fun r => .ok r.1) → (∀ r, wiS B n s C = .ok r → CtM M' p r.2 r.1) → K none M') :
    CallS Ω true m_MD_tellWing [vR (some (12, 0))] M K := by
  have h5 := h.2.1.1.1
  have hC0 := hC
  obtain ⟨⟨h20, -⟩, ⟨h74, h80, h84, h97⟩, ⟨hl, hh, -, hb⟩, hPg, hNm, -⟩ := hC0
  refine call_go (hJL rfl) (Nat.le_of_ble_eq_true rfl) (go_wp ok_MD_tellWing [48] 250 _ _ _ _ _ _ ?_)
  refine And.intro (fun _ => ?_) (fun q => absurd (show mI M 12 0 13 ≤ 0 by rw [h.2.2.2.1]; decide) q)
  conv => whnf
  rw [h20]
  refine And.intro (vp_in_nI (by omega) (by decide)) ?_
  rw [nI_clamp (by omega), h84, show (4 : Int32) = nI 4 from rfl, pk_mul]
  conv => whnf
  rw [nI_add]
  refine ⟨fun r M' => r = none ∧ Un wMe M M' ∧ PsM M' B n (tkS B n 203 s), c_MD_goesOn Ω M B n s _ (by omega) h (fun M' a b => ⟨rfl, a, by unfold tkS; rw [if_pos htk]; exact b⟩), trivial, ?_⟩
  rintro r M1 ⟨rfl, U1, P1⟩
  conv => whnf
  have k20 : mI M1 12 0 20 = nI p := (U1.I rfl).trans h20
  have hN1 : ∀ s', tkS B n 203 s = .ok s' → s'.2.2 = none → NmM M1 p (xN C) (xl C) (xh C) (xw C) (xb C) := fun s' hs hl => (hNm ((tkS_mo hs).1.2 hl)).2.me U1
  obtain ⟨tt, t1, t2, t3⟩ := P1.t
  refine ⟨fun r M' => r = some (vI (mI M1 12 0 11)) ∧ Un wMe M1 M' ∧ PsM M' B n (eb (eb (tkS B n 203 s) fun s => nmS B n 203 (xw C) s (xN C)) fun r => .ok r.1), c_MD_named Ω M1 B n p 203 (xw C) (xl C) (xh C) (xw C) (xb C) (xN C) _ _ hn P1 hp k20 ((U1.I rfl).trans h74) ((U1.I rfl).trans h80) ((U1.I rfl).trans h84) ((U1.I rfl).trans h97) hl hh (by omega) hb hN1 (fun M' a b => ⟨rfl, a, b⟩), trivial, ?_⟩
  rintro r M2 ⟨rfl, U2, P2⟩
  conv => whnf
  rw [t2]
  refine ⟨fun r M' => r = none ∧ Un wMe M2 M' ∧ PsM M' B n (eb (eb (eb (tkS B n 203 s) fun s => nmS B n 203 (xw C) s (xN C)) fun r => .ok r.1) (tkS B n 58)), c_MD_must Ω M2 B n 58 5 _ _ rfl (by decide) rfl (by decide) P2 (fun M' a b => ⟨rfl, a, b⟩), trivial, ?_⟩
  rintro r M3 ⟨rfl, U3, P3⟩
  rw [← mw_fst] at P3
  conv => whnf
  refine And.intro (vp_in_nI (by omega) (by decide)) ?_
  rw [nI_clamp (by omega)]
  have W3 : Un (w1 86 (4 * p + xw C)) M3 (sI M3 86 0 (4 * p + xw C) 0) := w1_I
  have z86 : mI (sI M3 86 0 (4 * p + xw C) 0) 86 0 (4 * p + xw C) = nI 0 := mI_eq
  have hP4 : PgX pgf (sI M3 86 0 (4 * p + xw C) 0) p (upT (xT C) 86 (xw C) 0) := (((hPg.me (U1.mono wMn_me)).me (U2.mono wMn_me)).me (U3.mono wMn_me)).up rfl
  have P4 := P3.c1 (by decide) W3
  have hQ4 : s.2.2 = none → PgX nmf (sI M3 86 0 (4 * p + xw C) 0) p (upT (xT C) 86 (xw C) 0) := fun hlt => (((((hNm hlt).1.mx (U1.mono wMn_me)).mx (U2.mono wMn_me)).mx (U3.mono wMn_me)).c1 rfl W3).tn rfl
  generalize sI M3 86 0 (4 * p + xw C) 0 = M4 at W3 z86 hP4 P4 hQ4
  conv => whnf
  have ch := mw_chain (B := B) (n := n) (s := s) hx
  have U04 : Un (wWm p (xw C)) M M4 := (U1.mono wWm_me).trans ((U2.mono wWm_me).trans ((U3.mono wWm_me).trans (W3.mono wWm_86)))
  have q20 : mI M4 12 0 20 = nI p := (W3.I rfl).trans ((U3.I rfl).trans ((U2.I rfl).trans k20))
  have q74 : mI M4 74 0 p = nI (xl C) := (W3.I rfl).trans ((U3.I rfl).trans ((U2.I rfl).trans ((U1.I rfl).trans h74)))
  have q80 : mI M4 80 0 p = nI (xh C) := (W3.I rfl).trans ((U3.I rfl).trans ((U2.I rfl).trans ((U1.I rfl).trans h80)))
  have q84 : mI M4 84 0 p = nI (xw C) := (W3.I rfl).trans ((U3.I rfl).trans ((U2.I rfl).trans ((U1.I rfl).trans h84)))
  have qNm : s.2.2 = none → NmM M4 p (xN C) (xl C) (xh C) (xw C) (xb C) := fun hlt => ((((hNm hlt).2.me U1).me U2).me U3).un W3 (fun k s hk => by rcases hk with rfl | rfl | rfl | rfl | rfl <;> rfl)
  have pts : ∀ r, wiS B n s C = .ok r → ∃ s1 r1 s2 q q3 s4, tkS B n 203 s = .ok s1 ∧ nmS B n 203 (xw C) s1 (xN C) = .ok r1 ∧ (eb (eb (tkS B n 203 s) fun s => nmS B n 203 (xw C) s (xN C)) fun r => eb (tkS B n 58 r.1) fun s => .ok (s, r.2)) = .ok (s2, r1.2) ∧ stM B n (xw C) r1.2 11 0 s2 (upT (xT C) 86 (xw C) 0) = .ok q ∧ mkL B n (xw C) 501 q.1 (deT q.2 (xw C)) = .ok q3 ∧ r = (s4, q3.2, r1.2, (xl C, xh C, xw C + 1, xb C), xL C) ∧ (r.1.2.2 = none → r1.1.2.2 = none ∧ q.1.2.2 = none) := fun r hr => by
    obtain ⟨s1, r1, s2, q, q3, s4, g1, g2, g3, g4, g5, g6, g7, g8⟩ := mw_parts hx hr
    exact ⟨s1, r1, s2, q, q3, s4, g1, g2, by rw [g1, eb_k, g2, eb_k, g3, eb_k], g4, g5, g7, g8⟩
  have e3p : ∀ r, (eb (eb (tkS B n 203 s) fun s => nmS B n 203 (xw C) s (xN C)) fun r => eb (tkS B n 58 r.1) fun s => .ok (s, r.2)) = .ok r → (r.1.2.2 = none → s.2.2 = none) ∧ ∀ x so, ¬ so = 203 → ¬ so = 204 → nmF r.2 x so = nmF (xN C) x so := fun r hr => by
    obtain ⟨r1, g1, g2⟩ := eb_ok hr
    obtain ⟨s1, g3, g4⟩ := eb_ok g1
    obtain ⟨s2, g5, g6⟩ := eb_ok g2
    cases g6
    exact ⟨fun hlt => (tkS_mo g3).1.2 ((nmS_mo g4).2 ((tkS_mo g5).1.2 hlt)), fun x so a b => nm_nmF g4 x so a b⟩
  generalize (eb (eb (tkS B n 203 s) fun s => nmS B n 203 (xw C) s (xN C)) fun r => eb (tkS B n 58 r.1) fun s => .ok (s, r.2)) = E3 at P4 ch pts e3p
  -- from 233 on
  have fin : ∀ (M' : Mem) (a3 a4 : Option Vl), Un (wSs p (xw C)) M4 M' → PsM M' B n (eb (eb E3 fun r => stM B n (xw C) r.2 11 0 r.1 (upT (xT C) 86 (xw C) 0)) fun r => .ok r.1) → (∀ r, (eb E3 fun r => stM B n (xw C) r.2 11 0 r.1 (upT (xT C) 86 (xw C) 0)) = .ok r → PgX pgf M' p r.2 ∧ (r.1.2.2 = none → PgX nmf M' p r.2)) → GoS Ω true m_MD_tellWing K 233 [some (vR (some (12, 0))), some (vI (nI (4 * p + xw C))), some (vI (nI tt)), a3, a4] [] M' 0 0 := fun M' a3 a4 U' P' G' => by
    refine mw_de hp hx hn P' (fun r hr => (G' r hr).1) (fun M5 U5 P5 G5 => ?_)
    refine mw_end hp hx t1 P5 ((U5.I rfl).trans ((U'.I rfl).trans q20)) ((U5.I rfl).trans ((U'.I rfl).trans q84)) (fun M6 U6 P6 hf => ?_) (fun M6 U6 P6 hs => ?_)
    · obtain ⟨f, hf⟩ := hf
      refine hK M6 (U04.trans ((U'.mono wWm_ss).trans ((U5.mono wWm_mr).trans (U6.mono wWm_me)))) (by rw [ch]; exact P6) (fun r hr => ?_)
      rw [hr, eb_k, hf] at ch
      cases ch
    · have V1 : Un (w1 85 (4 * p + xw C)) M6 (sJ M6 85 0 (4 * p + xw C) (mJ M6 72 0 tt)) := w1_J
      have z75 : mJ (sJ M6 85 0 (4 * p + xw C) (mJ M6 72 0 tt)) 85 0 (4 * p + xw C) = mJ M6 72 0 tt := by rw [mJ_sJ, if_pos ⟨rfl, rfl, rfl⟩]
      generalize sJ M6 85 0 (4 * p + xw C) (mJ M6 72 0 tt) = M7 at V1 z75
      have V2 : Un (w1 84 p) M7 (sI M7 84 0 p (nI (xw C + 1))) := w1_I
      have z74 : mI (sI M7 84 0 p (nI (xw C + 1))) 84 0 p = nI (xw C + 1) := mI_eq
      generalize sI M7 84 0 p (nI (xw C + 1)) = M8 at V2 z74
      have Uf : Un (wWm p (xw C)) M M8 := U04.trans ((U'.mono wWm_ss).trans ((U5.mono wWm_mr).trans ((U6.mono wWm_me).trans ((V1.mono wWm_85).trans (V2.mono wWm_84)))))
      refine hK M8 Uf (by rw [ch]; exact (P6.c1 (by decide) V1).c1 (by decide) V2) (fun r hr => ?_)
      obtain ⟨s1, r1, s2, q, q3, s4, g1, g2, g3, g4, g5, g6, g7⟩ := pts r hr
      have hm := (teS_mo (show teS B n s C = .ok r by unfold teS; rw [if_neg (by rw [htk]; decide), if_neg (by rw [htk]; decide), if_pos htk]; exact hr)).1
      have tq : (eb E3 fun r => stM B n (xw C) r.2 11 0 r.1 (upT (xT C) 86 (xw C) 0)) = .ok q := by rw [g3, eb_k]; exact g4
      refine hC.wi hr hm Uf hx z74 ?_ (fun hlt => ?_) (fun hlt => ?_)
      · have := G5 q3 (by rw [tq, eb_k]; exact g5)
        have := ((this.me (U6.mono wMn_me)).c1 rfl V1).c1 rfl V2
        rw [g6]
        exact this
      · have := (G' q tq).2 (g7 hlt).2
        have := ((((this.un U5 (fun f a hf => by rcases nmf_ge hf with rfl | rfl | rfl <;> rfl)).mx (U6.mono wMn_me)).c1 rfl V1).c1 rfl V2)
        rw [g6]
        exact this.ct (fun f a hf => by
          have := nmf_ge hf
          exact (mkL_T g5 f a (fun c => by omega) (fun c => by omega)).trans (deT_ne (fun c => by omega)))
      · obtain ⟨y1, y2, y3⟩ := nm_told g2 (g7 hlt).1
        have et := t3 s1 g1
        rw [g1] at P1
        refine ⟨tkV B n s1.1, y2, ?_, ?_⟩
        · rw [V2.J rfl, z75, et]
          exact (P6.1 s1.1 P1.2.1.1).2.2.2 y1
        · rw [g6]; exact y3
  cases E3 with
  | error f => exact ms_out (Or.inr ⟨f, rfl⟩) P4 (fin M4 _ _ Un.rfl P4 (fun r hr => by cases hr))
  | ok r2 =>
    obtain ⟨l2, n2⟩ := e3p r2 rfl
    refine ms_strips (Z := s.2.2 = none) (N := r2.2) (nl := xl C) (nh := xh C) (nw := xw C) (nb := xb C) hn hp hx (tl := stM B n (xw C) r2.2 11 0 r2.1 (upT (xT C) 86 (xw C) 0)) q20 q74 hl q80 hh (fun hz => ⟨xN C, qNm hz, n2⟩) fin (fun M' f U' P' hf => ?_) 10 0 r2.1 (upT (xT C) 86 (xw C) 0) M4 _ (by decide) Un.rfl P4 l2 hP4 (fun hlt => hQ4 (l2 hlt)) z86 rfl
    refine hK M' (U04.trans (U'.mono wWm_ss)) ?_ (fun r hr => ?_)
    · rw [ch, eb_k, hf]
      exact P'
    · rw [hr, eb_k, eb_k, hf] at ch
      cases ch
