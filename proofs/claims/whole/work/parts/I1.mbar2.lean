/-! READ: the model's reader: a bar told, II -/
theorem CtM.ba {M M' : Mem} {B : Nat → Nat} {n p lc cc lc' cc' : Nat} {s : Ps} {C : Cn} {r : Ps × Cn} (h : (mI M 12 0 20 = nI p ∧ mI M 12 0 12 = 0) ∧ (mI M 74 0 p = nI (xl C) ∧ mI M 80 0 p = nI (xh C) ∧ mI M 84 0 p = nI (xw C) ∧ mI M 97 0 p = nI (xb C)) ∧ (xl C ≤ 8 ∧ xh C ≤ 4 ∧ xw C ≤ 4 ∧ xb C ≤ 8) ∧ PgX pgf M p (xT C) ∧
  (s.2.2 = none → PgX nmf M p (xT C) ∧ NmM M p (xN C) (xl C) (xh C) (xw C) (xb C)) ∧ ∀ b, b < xb C → BOK (xL C b) ∧ BrM M p b (xL C b) lc cc)
    (hr : baS B n s C = .ok r) (hm : Mo s r.1) (hU : Un (wBq p (xb C) cc lc) M M') (hx : xb C < 8) (h97 : mI M' 97 0 p = nI (xb C + 1)) (h12 : mI M' 12 0 12 = 0) (h48 : mI M' 12 0 48 = nI (200 * p + lc')) (h55 : mI M' 12 0 55 = nI (520 * p + cc')) (hlc : lc ≤ lc') (hcc : cc ≤ cc') (hl3 : 3 * lc' ≤ r.1.1) (hc3 : cc' ≤ r.1.1) (hB : BrM M' p (xb C) (xL r.2 (xb C)) lc' cc')
    (hN : r.1.2.2 = none → ∃ x, nmI (xN C) x = false ∧ mJ M' 98 0 (8 * p + xb C) = x ∧ xN r.2 = xN C ++ [(x, 204, xb C)]) : CtM M' p r.2 r.1 := by
  obtain ⟨⟨a1, a2⟩, ⟨b1, b2, b3, b4⟩, ⟨c1, c2, c3, c4⟩, d, e, g⟩ := h
  obtain ⟨⟨t1, t2, t3, t4, t5⟩, t6, -, -, t7⟩ := baS_T hr
  unfold CtM
  rw [t1, t2, t3, t4, t5]
  refine ⟨⟨(hU.I (wBq_no (by omega))).trans a1, h12⟩, ⟨(hU.I (wBq_no (by omega))).trans b1, (hU.I (wBq_no (by omega))).trans b2, (hU.I (wBq_no (by omega))).trans b3, h97⟩, ⟨c1, c2, c3, by omega⟩, d.un hU (fun f a hf => wBq_no (by have := pgf_ge hf; omega)), fun hl => ⟨(e (hm.2 hl)).1.un hU (fun f a hf => wBq_no (by have := nmf_ge hf; omega)), ?_⟩, lc', cc', ⟨hl3, hc3⟩, h48, h55, fun b hb => ?_⟩
  · obtain ⟨x, x1, x2, x3⟩ := hN hl
    rw [x3]
    refine NmM.bar1 ((e (hm.2 hl)).2.cg (fun k hk => ⟨hU.J (wBq_no (by omega)), hU.I (wBq_no (by omega))⟩) (fun k _ => hU.J (wBq_no (by omega))) (fun k _ => hU.J (wBq_no (by omega))) (fun k hk => hU.J (wBq_no (by omega)))) x1 x2
  · by_cases eb_ : b = xb C
    · rw [eb_]
      exact ⟨t7, hB⟩
    · rw [t6 b eb_]
      refine ⟨(g b (by omega)).1, (g b (by omega)).2.cg hlc hcc (fun k _ _ => hU.I (wBq_no (by omega))) (fun k s _ _ _ => hU.I (wBq_no (by omega))) (fun s _ => ⟨hU.I (wBq_no (by omega)), hU.I (wBq_no (by omega))⟩)⟩
set_option maxHeartbeats 2000000 in
theorem mb_end {Ω : Om} {K : Ka} {B : Nat → Nat} {n p b tt : Nat} {M' : Mem} {e : Except Fa Ps} {a3 a4 : Option Vl} (hp : p < 4) (hb : b < 8) (ht : tt ≤ 500) (P : PsM M' B n e) (h20 : mI M' 12 0 20 = nI p) (h97 : mI M' 97 0 p = nI b)
    (hE : ∀ M2 M3, Un wMe M' M2 → Un (w1 100 (8 * p + b)) M2 M3 → PsM M3 B n (eb e (tkS B n 59)) → (∃ f, eb e (tkS B n 59) = .error f) → K none M3)
    (hK : ∀ M2, Un wMe M' M2 → PsM M2 B n (eb e (tkS B n 59)) → (∃ s, eb e (tkS B n 59) = .ok s) → K none (sI (sJ (sI M2 100 0 (8 * p + b) (mI M2 12 0 48)) 98 0 (8 * p + b) (mJ M2 72 0 tt)) 97 0 p (nI (b + 1)))) :
    GoS Ω true m_MD_tellBar K 112 [some (vR (some (12, 0))), some (vI (nI (8 * p + b))), some (vI (nI tt)), a3, a4] [] M' 0 0 := by
  refine go_wp ok_MD_tellBar [] 250 _ _ _ _ _ _ ?_
  conv => whnf
  refine ⟨fun r M2 => r = none ∧ Un wMe M' M2 ∧ PsM M2 B n (eb e (tkS B n 59)), c_MD_must Ω M' B n 59 4 _ _ rfl (by decide) rfl (by decide) P (fun M' a b => ⟨rfl, a, b⟩), trivial, ?_⟩
  rintro r M2 ⟨rfl, U2, P2⟩
  conv => whnf
  refine And.intro (vp_in_nI (by omega) (by decide)) ?_
  rw [nI_clamp (by omega)]
  have Q3 : Un (w1 100 (8 * p + b)) M2 (sI M2 100 0 (8 * p + b) (mI M2 12 0 48)) := w1_I
  have fin := hK M2 U2 P2
  have n72 : mJ (sI M2 100 0 (8 * p + b) (mI M2 12 0 48)) 72 0 tt = mJ M2 72 0 tt := rfl
  have P3 := P2.c1 (by decide) Q3
  have g20 : mI (sI M2 100 0 (8 * p + b) (mI M2 12 0 48)) 12 0 20 = nI p := (Q3.I rfl).trans ((U2.I rfl).trans h20)
  have g97 : mI (sI M2 100 0 (8 * p + b) (mI M2 12 0 48)) 97 0 p = nI b := (Q3.I rfl).trans ((U2.I rfl).trans h97)
  rw [← n72] at fin
  generalize sI M2 100 0 (8 * p + b) (mI M2 12 0 48) = M3 at Q3 fin P3 g20 g97
  conv => whnf
  rcases rm_fault P3 with ⟨f, e1, e2, e3⟩ | ⟨s', e1, e2, e3⟩
  · refine And.intro (fun q => absurd q e3) (fun _ => ?_)
    exact hE M2 M3 U2 Q3 P3 ⟨f, e1⟩
  refine And.intro (fun _ => ?_) (fun q => absurd (show mI M3 12 0 13 ≤ 0 by rw [e2]; decide) q)
  have fin := fin ⟨s', e1⟩
  conv => whnf
  refine And.intro (vp_in_nI (by omega) (by decide)) ?_
  rw [nI_clamp (by omega)]
  conv => whnf
  refine And.intro (vp_in_nI (by omega) (by decide)) ?_
  rw [nI_clamp (by omega)]
  generalize mJ M3 72 0 tt = x at fin
  have n20 : mI (sJ M3 98 0 (8 * p + b) x) 12 0 20 = nI p := g20
  have n97 : mI (sJ M3 98 0 (8 * p + b) x) 97 0 p = nI b := g97
  generalize sJ M3 98 0 (8 * p + b) x = Ma at fin n20 n97
  conv => whnf
  rw [n20]
  refine And.intro (vp_in_nI (by omega) (by decide)) ?_
  rw [nI_clamp (by omega), n97]
  conv => whnf
  rw [nI_1]
  refine And.intro (vp_in_nI (by omega) (by decide)) ?_
  rw [nI_clamp (by omega)]
  conv => whnf
  exact fin
theorem mb_chain {B : Nat → Nat} {n : Nat} {s : Ps} {C : Cn} (hx : xb C < 8) :
    eb (baS B n s C) (fun r => .ok r.1) = eb (eb (eb (eb (eb (tkS B n 204 s) fun s => nmS B n 204 (xb C) s (xN C)) fun r => .ok r.1) (tkS B n 209)) fun s => eb (coS B n 501 true [] s.1) fun q => .ok (q.1, q.1 - 1, s.2.2)) (tkS B n 59) := by
  unfold baS
  rw [if_neg (by omega)]
  cases tkS B n 204 s with
  | error f => rfl
  | ok s1 =>
    simp only [eb_k]
    cases nmS B n 204 (xb C) s1 (xN C) with
    | error f => rfl
    | ok r1 =>
      simp only [eb_k]
      cases tkS B n 209 r1.1 with
      | error f => rfl
      | ok s2 =>
        simp only [eb_k]
        cases coS B n 501 true [] s2.1 with
        | error f => rfl
        | ok q =>
          simp only [eb_k]
          cases tkS B n 59 (q.1, q.1 - 1, s2.2.2) with
          | error f => rfl
          | ok s4 => rfl
/-- what a bar told comes to -/
theorem mb_parts {B : Nat → Nat} {n : Nat} {s : Ps} {C : Cn} {r : Ps × Cn} (hx : xb C < 8) (h : baS B n s C = .ok r) :
    ∃ s1 r1 s2 q s4, tkS B n 204 s = .ok s1 ∧ nmS B n 204 (xb C) s1 (xN C) = .ok r1 ∧ tkS B n 209 r1.1 = .ok s2 ∧ coS B n 501 true [] s2.1 = .ok q ∧ tkS B n 59 (q.1, q.1 - 1, s2.2.2) = .ok s4 ∧ r = (s4, xT C, r1.2, (xl C, xh C, xw C, xb C + 1), fun b => if b = xb C then q.2 else xL C b) ∧ (r.1.2.2 = none → r1.1.2.2 = none) ∧ q.1 ≤ r.1.1 := by
  unfold baS at h
  rw [if_neg (by omega)] at h
  obtain ⟨s1, h1, h⟩ := eb_ok h
  obtain ⟨r1, h2, h⟩ := eb_ok h
  obtain ⟨s2, h3, h⟩ := eb_ok h
  obtain ⟨q, h4, h⟩ := eb_ok h
  obtain ⟨s4, h5, h⟩ := eb_ok h
  refine ⟨s1, r1, s2, q, s4, h1, h2, h3, h4, h5, ?_, fun hl => ?_, ?_⟩
  · cases h; rfl
  · cases h
    exact (tkS_mo h3).1.2 ((tkS_mo h5).1.2 hl)
  · cases h
    exact (tkS_mo h5).1.1
set_option maxHeartbeats 4000000 in
theorem c_MD_tellBar (Ω : Om) (M : Mem) (B : Nat → Nat) (n p : Nat) (s : Ps) (C : Cn) (K : Ka) (hn : n ≤ 2000) (h : PsM M B n (.ok s)) (htk : tkK B n s.1 = 204) (hx : xb C < 8) (hp : p < 4) (hC : CtM M p C s)
    (hK : ∀ M', Un (wPr p) M M' → PsM M' B n (eb (baS B n s C) fun r => .ok r.1) → (∀ r, baS B n s C = .ok r → CtM M' p r.2 r.1) → K none M') :
    CallS Ω true m_MD_tellBar [vR (some (12, 0))] M K := by
  have h5 := h.2.1.1.1
  obtain ⟨⟨h20, h12⟩, ⟨h74, h80, h84, h97⟩, ⟨hl, hh, hw, hb⟩, hPg, hNm, lc, cc, ⟨hl3, hcc⟩, h48, h55, hbs⟩ := hC
  refine call_go (hJL rfl) (Nat.le_of_ble_eq_true rfl) (go_wp ok_MD_tellBar [56] 250 _ _ _ _ _ _ ?_)
  refine And.intro (fun _ => ?_) (fun q => absurd (show mI M 12 0 13 ≤ 0 by rw [h.2.2.2.1]; decide) q)
  conv => whnf
  rw [h20]
  refine And.intro (vp_in_nI (by omega) (by decide)) ?_
  rw [nI_clamp (by omega), h97, show (8 : Int32) = nI 8 from rfl, pk_mul]
  conv => whnf
  rw [nI_add]
  refine ⟨fun r M' => r = none ∧ Un wMe M M' ∧ PsM M' B n (tkS B n 204 s), c_MD_goesOn Ω M B n s _ (by omega) h (fun M' a b => ⟨rfl, a, by unfold tkS; rw [if_pos htk]; exact b⟩), trivial, ?_⟩
  rintro r M1 ⟨rfl, U1, P1⟩
  conv => whnf
  have k20 : mI M1 12 0 20 = nI p := (U1.I rfl).trans h20
  have hN1 : ∀ s', tkS B n 204 s = .ok s' → s'.2.2 = none → NmM M1 p (xN C) (xl C) (xh C) (xw C) (xb C) := fun s' hs hl => (hNm ((tkS_mo hs).1.2 hl)).2.me U1
  obtain ⟨tt, t1, t2, t3⟩ := P1.t
  refine ⟨fun r M' => r = some (vI (mI M1 12 0 11)) ∧ Un wMe M1 M' ∧ PsM M' B n (eb (eb (tkS B n 204 s) fun s => nmS B n 204 (xb C) s (xN C)) fun r => .ok r.1), c_MD_named Ω M1 B n p 204 (xb C) (xl C) (xh C) (xw C) (xb C) (xN C) _ _ hn P1 hp k20 ((U1.I rfl).trans h74) ((U1.I rfl).trans h80) ((U1.I rfl).trans h84) ((U1.I rfl).trans h97) hl hh hw (by omega) hN1 (fun M' a b => ⟨rfl, a, b⟩), trivial, ?_⟩
  rintro r M2 ⟨rfl, U2, P2⟩
  conv => whnf
  rw [t2]
  refine ⟨fun r M' => r = none ∧ Un wMe M2 M' ∧ PsM M' B n (eb (eb (eb (tkS B n 204 s) fun s => nmS B n 204 (xb C) s (xN C)) fun r => .ok r.1) (tkS B n 209)), c_MD_must Ω M2 B n 209 30 _ _ rfl (by decide) rfl (by decide) P2 (fun M' a b => ⟨rfl, a, b⟩), trivial, ?_⟩
  rintro r M3 ⟨rfl, U3, P3⟩
  conv => whnf
  have g48 : mI M3 12 0 48 = nI (200 * p + lc) := (U3.I rfl).trans ((U2.I rfl).trans ((U1.I rfl).trans h48))
  rw [g48]
  refine And.intro (vp_in_nI (by omega) (by decide)) ?_
  rw [nI_clamp (by omega)]
  have W3 : Un (w1 99 (8 * p + xb C)) M3 (sI M3 99 0 (8 * p + xb C) (nI (200 * p + lc))) := w1_I
  have z99 : mI (sI M3 99 0 (8 * p + xb C) (nI (200 * p + lc))) 99 0 (8 * p + xb C) = nI (200 * p + lc) := mI_eq
  have P4 := P3.c1 (by decide) W3
  generalize sI M3 99 0 (8 * p + xb C) (nI (200 * p + lc)) = M4 at W3 z99 P4
  conv => whnf
  have ch := mb_chain (B := B) (n := n) (s := s) hx
  have U04 : Un (wBq p (xb C) cc lc) M M4 := (U1.mono wBq_me).trans ((U2.mono wBq_me).trans ((U3.mono wBq_me).trans (W3.mono (wBq_1 (by omega)))))
  have q20 : mI M4 12 0 20 = nI p := (W3.I rfl).trans ((U3.I rfl).trans ((U2.I rfl).trans k20))
  have q97 : mI M4 97 0 p = nI (xb C) := (W3.I rfl).trans ((U3.I rfl).trans ((U2.I rfl).trans ((U1.I rfl).trans h97)))
  have pts : ∀ r, baS B n s C = .ok r → ∃ s1 r1 s2 q s4, tkS B n 204 s = .ok s1 ∧ nmS B n 204 (xb C) s1 (xN C) = .ok r1 ∧ (eb (eb (eb (tkS B n 204 s) fun s => nmS B n 204 (xb C) s (xN C)) fun r => .ok r.1) (tkS B n 209)) = .ok s2 ∧ coS B n 501 true [] s2.1 = .ok q ∧ r = (s4, xT C, r1.2, (xl C, xh C, xw C, xb C + 1), fun b => if b = xb C then q.2 else xL C b) ∧ (r.1.2.2 = none → r1.1.2.2 = none) ∧ q.1 ≤ r.1.1 := fun r hr => by
    obtain ⟨s1, r1, s2, q, s4, g1, g2, g3, g4, g5, g6, g7, g8⟩ := mb_parts hx hr
    exact ⟨s1, r1, s2, q, s4, g1, g2, by rw [g1, eb_k, g2, eb_k, eb_k, g3], g4, g6, g7, g8⟩
  have e3s : ∀ s2, (eb (eb (eb (tkS B n 204 s) fun s => nmS B n 204 (xb C) s (xN C)) fun r => .ok r.1) (tkS B n 209)) = .ok s2 → s.1 ≤ s2.1 := fun s2 hs => by
    obtain ⟨r1, g1, g2⟩ := eb_ok hs
    obtain ⟨r2, g3, g4⟩ := eb_ok g1
    obtain ⟨s1, g5, g6⟩ := eb_ok g3
    cases g4
    have := (tkS_mo g5).1.1
    have := (nmS_mo g6).1
    have := (tkS_mo g2).1.1
    omega
  generalize (eb (eb (eb (tkS B n 204 s) fun s => nmS B n 204 (xb C) s (xN C)) fun r => .ok r.1) (tkS B n 209)) = E3 at P4 ch pts e3s
  have fin : ∀ (M' : Mem) (a3 a4 : Int32), Un (wBq p (xb C) cc lc) M4 M' → mI M' 12 0 20 = nI p → mI M' 97 0 p = nI (xb C) → mI M' 99 0 (8 * p + xb C) = nI (200 * p + lc) → PsM M' B n (eb E3 fun s => eb (coS B n 501 true [] s.1) fun q => .ok (q.1, q.1 - 1, s.2.2)) → (∀ s2 q, E3 = .ok s2 → coS B n 501 true [] s2.1 = .ok q → ∃ lc' cc', (lc ≤ lc' ∧ cc ≤ cc') ∧ BcM M' p (200 * p + lc) lc' cc' q.1 q.2) → GoS Ω true m_MD_tellBar K 112 [some (vR (some (12, 0))), some (vI (nI (8 * p + xb C))), some (vI (nI tt)), some (vI a3), some (vI a4)] [] M' 0 0 := fun M' a3 a4 U' i20 i97 i99 P' G' => by
    refine mb_end hp hx t1 P' i20 i97 (fun M5 M6 U5 Q6 P6 hf => ?_) (fun M5 U5 P5 hs => ?_)
    · obtain ⟨f, hf⟩ := hf
      refine hK M6 (((U04.trans U').trans ((U5.mono wBq_me).trans (Q6.mono (wBq_1 (by omega))))).mono (wBq_pr hx)) (by rw [ch]; exact P6) (fun r hr => ?_)
      rw [hr, eb_k, hf] at ch
      cases ch
    · have V0 : Un (w1 100 (8 * p + xb C)) M5 (sI M5 100 0 (8 * p + xb C) (mI M5 12 0 48)) := w1_I
      have z100 : mI (sI M5 100 0 (8 * p + xb C) (mI M5 12 0 48)) 100 0 (8 * p + xb C) = mI M5 12 0 48 := mI_eq
      generalize sI M5 100 0 (8 * p + xb C) (mI M5 12 0 48) = M6 at V0 z100
      have V1 : Un (w1 98 (8 * p + xb C)) M6 (sJ M6 98 0 (8 * p + xb C) (mJ M5 72 0 tt)) := w1_J
      have z75 : mJ (sJ M6 98 0 (8 * p + xb C) (mJ M5 72 0 tt)) 98 0 (8 * p + xb C) = mJ M5 72 0 tt := by rw [mJ_sJ, if_pos ⟨rfl, rfl, rfl⟩]
      generalize sJ M6 98 0 (8 * p + xb C) (mJ M5 72 0 tt) = M7 at V1 z75
      have V2 : Un (w1 97 p) M7 (sI M7 97 0 p (nI (xb C + 1))) := w1_I
      have z74 : mI (sI M7 97 0 p (nI (xb C + 1))) 97 0 p = nI (xb C + 1) := mI_eq
      generalize sI M7 97 0 p (nI (xb C + 1)) = M8 at V2 z74
      have Uf : Un (wBq p (xb C) cc lc) M M8 := (U04.trans U').trans ((U5.mono wBq_me).trans ((V0.mono (wBq_1 (by omega))).trans ((V1.mono (wBq_1 (by omega))).trans (V2.mono (wBq_1 (by omega))))))
      refine hK M8 (Uf.mono (wBq_pr hx)) (by rw [ch]; exact ((P5.c1 (by decide) V0).c1 (by decide) V1).c1 (by decide) V2) (fun r hr => ?_)
      obtain ⟨s1, r1, s2, q, s4, g1, g2, g3, g4, g6, g7, g8⟩ := pts r hr
      have hm := (teS_mo (show teS B n s C = .ok r by unfold teS; rw [if_neg (by rw [htk]; decide), if_neg (by rw [htk]; decide), if_neg (by rw [htk]; decide), if_pos htk]; exact hr)).1
      obtain ⟨lc', cc', ⟨v1, v2⟩, ⟨v3, v4, v5⟩, ⟨v6, v7⟩, v8, v9⟩ := G' s2 q g3 g4
      have keep : ∀ {k s0 : Nat}, (k = 12 ∧ (s0 = 12 ∨ s0 = 48 ∨ s0 = 55)) ∨ k = 99 ∨ (101 ≤ k ∧ k ≤ 108) → mI M8 k 0 s0 = mI M' k 0 s0 := fun {k s0} hk => by
        rw [V2.I (by simp [w1, nb_d]; omega), V1.I (by simp [w1, nb_d]; omega), V0.I (by simp [w1, nb_d]; omega), U5.I (by simp [wMe, nb_d, nl_d]; omega)]
      refine CtM.ba (lc := lc) (cc := cc) (lc' := lc') (cc' := cc') ⟨⟨h20, h12⟩, ⟨h74, h80, h84, h97⟩, ⟨hl, hh, hw, hb⟩, hPg, hNm, hbs⟩ hr hm Uf hx z74 ((keep (by omega)).trans v3) ((keep (by omega)).trans v4) ((keep (by omega)).trans v5) v1 v2 (by omega) (by omega) ?_ (fun hlt => ?_)
      · have exb : xL r.2 (xb C) = q.2 := by
          rw [g6]
          exact if_pos rfl
        rw [exb]
        refine ⟨200 * p + lc, (keep (by omega)).trans i99, ?_, ⟨by omega, by omega⟩, v9.cg (lc := 200 * p + lc') (Nat.le_refl _) (fun k s a b _ => keep (by omega)) (fun s _ => ⟨keep (by omega), keep (by omega)⟩) (by omega)⟩
        rw [V2.I rfl, V1.I rfl, z100, U5.I rfl, v4, v8]
      · obtain ⟨y1, y2, y3⟩ := nm_told g2 (g7 hlt)
        have et := t3 s1 g1
        rw [g1] at P1
        refine ⟨tkV B n s1.1, y2, ?_, ?_⟩
        · rw [V2.J rfl, z75, et]
          exact (P5.1 s1.1 P1.2.1.1).2.2.2 y1
        · rw [g6]; exact y3
  cases E3 with
  | error f =>
    refine go_wp ok_MD_tellBar [112] 250 _ _ _ _ _ _ ?_
    refine And.intro (fun q => absurd q (by decide)) (fun _ => ?_)
    rcases rm_fault P4 with ⟨f', e1, e2, e3⟩ | ⟨s', e1, e2, e3⟩
    · refine And.intro (fun _ => ?_) (fun z => absurd z e2)
      exact fin M4 1 1 Un.rfl q20 q97 z99 P4 (fun s2 q hs => by cases hs)
    · cases e1
  | ok s2 =>
    have hs2 := e3s s2 rfl
    have hsp := P4.2.1.2
    have es : (s2 : Ps) = (s2.1, s2.1 - 1, s2.2.2) := by rw [← hsp]
    have P5 := P4
    rw [es] at P5
    refine bc_loop (M0 := M4) (cc0 := cc) (lc0 := lc) (f0 := 200 * p + lc) (lt := s2.2.2) (tl := coS B n 501 true [] s2.1) hp (fun M' a3 a4 U' P' G' => ?_) 501 true [] s2.1 lc cc M4 (by omega) ⟨Nat.le_refl _, Nat.le_refl _⟩ Un.rfl P5 ⟨⟨(W3.I rfl).trans ((U3.I rfl).trans ((U2.I rfl).trans ((U1.I rfl).trans h12))), (W3.I rfl).trans g48, (W3.I rfl).trans ((U3.I rfl).trans ((U2.I rfl).trans ((U1.I rfl).trans h55)))⟩, ⟨by omega, by omega⟩, rfl, trivial⟩ rfl
    have no : ∀ {k s0 : Nat}, (k = 12 ∧ s0 = 20) ∨ k = 97 ∨ k = 99 → mI M' k 0 s0 = mI M4 k 0 s0 := fun {k s0} hk => U'.I (Bool.eq_false_iff.mpr (fun z => by rw [wBl_is] at z; omega))
    exact fin M' a3 a4 (U'.mono wBq_bl) ((no (by omega)).trans q20) ((no (by omega)).trans q97) ((no (by omega)).trans z99) P' (fun s2' q h1 h2 => by cases h1; exact G' q h2)
