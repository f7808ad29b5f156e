/-! READ: the class's reader: a law, II; a hinge -/
theorem eb_id {α : Type} {x : Except Fa α} : eb x (fun s => .ok s) = x := by
  cases x with
  | error e => rw [eb_x]
  | ok a => rw [eb_k]
/-- the first of a pair, handed on with something else -/
theorem eb_pr {α β γ : Type} {x : Except Fa α} {g : α → β} {T : α → γ} : eb (eb x fun s => .ok (g s, T s)) (fun r => .ok r.1) = eb x fun s => .ok (g s) := by
  rw [eb_eb]
  exact eb_cg (fun s _ => by rw [eb_k])
set_option maxHeartbeats 4000000 in
set_option maxRecDepth 4000 in
theorem c_tellLaw (Ω : Om) (M : Mem) (B : Nat → Nat) (n t so : Nat) (s : Ps) (C : Cn) (K : Ka) (hso : so = 200 ∨ so = 201) (h : PsC M B n (.ok s)) (h1 : mI M 7 t 1 = nI (xl C)) (h8 : xl C ≤ 8) (hp : xl C < 8 → mI M 3 (8 * t + xl C) 2 = 0) (hS1 : San1 M t) (hN : s.2.2 = none → NmC M t (xN C)) (hlen : xl C < 8 → (xN C).length < 24)
    (hK : ∀ M', Un (wLw t (8 * t + xl C)) M M' → PsC M' B n (eb (lwS B n so s C) fun r => .ok r.1) → San1 M' t → (∀ r, lwS B n so s C = .ok r → xl C < 8 ∧ mI M' 7 t 1 = nI (xl C + 1) ∧ (∃ np, np ≤ 8 ∧ xT r.2 77 (xl C) = nI np ∧ LwP M' t (xl C) (xT r.2) np) ∧ (r.1.2.2 = none → NmC M' t (xN r.2))) → K none M') :
    CallS Ω true m_Reader_tellLaw [vR (some (4, 0)), vR (some (7, t)), vI (nI so)] M K := by
  generalize hk : xl C = k at *
  refine call_go (hJL rfl) (Nat.le_of_ble_eq_true rfl) (go_wp ok_Reader_tellLaw [68] 250 _ _ _ _ _ _ ?_)
  conv => whnf
  rw [h1]
  refine And.intro (fun q => absurd q (nI_pos (by omega))) (fun _ => And.intro (fun q => ?_) (fun q => ?_))
  rotate_left
  · have q : ¬ nI k < nI 8 := q
    rw [nI_ltI (by omega) (by omega)] at q
    conv => whnf
    refine ⟨fun r M' => r = none ∧ Un wRe M M' ∧ PsC M' B n (eb (.ok s) fun s => .error (2, s.1)), c_stop Ω M B n 2 (.ok s) _ (Or.inr rfl) h (fun M' a b => ⟨rfl, a, b⟩), trivial, ?_⟩
    rintro r M1 ⟨rfl, q1, q2⟩
    conv => whnf
    have e : lwS B n so s C = .error (2, s.1) := by unfold lwS; rw [hk, if_pos (by omega)]
    refine hK M1 (q1.mono wLw_re) ?_ (hS1.re q1) (fun r hr => by rw [e] at hr; cases hr)
    rw [e, eb_x]
    rw [eb_k] at q2
    exact q2
  have q : nI k < nI 8 := q
  rw [nI_ltI (by omega) (by omega)] at q
  have hp := hp q
  have hlen := hlen q
  conv => whnf
  refine And.intro (vp_in_nI (by omega) (by decide)) ?_
  rw [nI_clamp (by omega), rr_law q]
  conv => whnf
  refine ⟨fun r M' => r = none ∧ Un wRe M M' ∧ PsC M' B n (tkS B n so s), c_take Ω M B n so (.ok s) _ (by omega) h (fun M' a b => ⟨rfl, a, by rw [eb_k] at b; exact b⟩), trivial, ?_⟩
  rintro r M1 ⟨rfl, U1, P1⟩
  generalize hx1 : tkS B n so s = x1 at P1
  conv => whnf
  refine ⟨fun r M' => r = none ∧ Un (wNa t) M1 M' ∧ PsC M' B n (eb (eb x1 fun s => nmS B n so k s (xN C)) fun r => .ok r.1) ∧ San1 M' t ∧ (∀ r, (eb x1 fun s => nmS B n so k s (xN C)) = .ok r → r.1.2.2 = none → NmC M' t r.2), c_named Ω M1 B n t so k (xN C) x1 _ (by omega) P1 (hS1.re U1) hlen (fun s' hs' hn => (hN (by rw [← hx1] at hs'; exact (tkS_mo hs').1.2 hn)).re U1) (fun M' a b c d => ⟨rfl, a, b, c, d⟩), trivial, ?_⟩
  rintro r M2 ⟨rfl, U2, P2, S2, N2⟩
  generalize hx2 : (eb x1 fun s => nmS B n so k s (xN C)) = x2 at P2 N2
  have L2 : mI M2 3 (8 * t + k) 2 = 0 := (U2.I (by rfl)).trans ((U1.I rfl).trans hp)
  have c2 : mI M2 7 t 1 = nI k := (U2.I (by simp [wNa, wNb, wRe, nb_d])).trans ((U1.I rfl).trans h1)
  conv => whnf
  refine ⟨fun r M' => r = none ∧ Un wRe M2 M' ∧ PsC M' B n (eb (eb x2 fun r => .ok r.1) (tkS B n 58)), c_take Ω M2 B n 58 _ _ ⟨by decide, by decide⟩ P2 (fun M' a b => ⟨rfl, a, b⟩), trivial, ?_⟩
  rintro r M3 ⟨rfl, U3, P3⟩
  generalize hx3 : eb (eb x2 fun r => .ok r.1) (tkS B n 58) = x3 at P3
  have L3 : mI M3 3 (8 * t + k) 2 = 0 := (U3.I rfl).trans L2
  conv => whnf
  generalize hy0 : (eb x3 fun s => .ok (s, upT (xT C) 77 k 0) : Except Fa (Ps × Tx)) = y0
  have P3' : PsC M3 B n (eb y0 fun r => .ok r.1) := by
    rw [← hy0, eb_pr, eb_id]; exact P3
  refine ⟨fun r M' => r = none ∧ Un (wPt (8 * t + k)) M3 M' ∧ PsC M' B n (eb (eb y0 fun r => ptS B n k 0 r.1 r.2) fun r => .ok r.1) ∧ San2 M' t k ∧ (∀ r, (eb y0 fun r => ptS B n k 0 r.1 r.2) = .ok r → LwP M' t k r.2 1), c_tellPoint Ω M3 B n t k 0 y0 _ (by decide) P3' ⟨0, by decide, L3⟩ (fun r hr => ⟨L3, fun j hj => absurd hj (Nat.not_lt_zero _)⟩) (fun M' a b c d => ⟨rfl, a, b, c, d⟩), trivial, ?_⟩
  rintro r M4 ⟨rfl, U4, P4, S4, L4⟩
  generalize hy1 : (eb y0 fun r => ptS B n k 0 r.1 r.2) = y1 at P4 L4
  conv => whnf
  refine ⟨fun r M' => r = none ∧ Un wRe M4 M' ∧ PsC M' B n (eb (eb y1 fun r => .ok r.1) (tkS B n 44)), c_take Ω M4 B n 44 _ _ ⟨by decide, by decide⟩ P4 (fun M' a b => ⟨rfl, a, b⟩), trivial, ?_⟩
  rintro r M5 ⟨rfl, U5, P5⟩
  generalize hy2 : (eb y1 fun q => eb (tkS B n 44 q.1) fun s => .ok (s, q.2) : Except Fa (Ps × Tx)) = y2
  have P5' : PsC M5 B n (eb y2 fun r => .ok r.1) := by
    rw [← hy2, eb_eb, show (eb y1 fun a => eb (eb (tkS B n 44 a.1) fun s => .ok (s, a.2)) fun r => .ok r.1) = eb y1 fun a => tkS B n 44 a.1 from eb_cg (fun a _ => by rw [eb_pr, eb_id])]
    rw [eb_eb, show (eb y1 fun a => eb (.ok a.1) (tkS B n 44)) = eb y1 fun a => tkS B n 44 a.1 from eb_cg (fun a _ => by rw [eb_k])] at P5
    exact P5
  conv => whnf
  refine ⟨fun r M' => r = none ∧ Un (wPt (8 * t + k)) M5 M' ∧ PsC M' B n (eb (eb y2 fun r => ptS B n k 1 r.1 r.2) fun r => .ok r.1) ∧ San2 M' t k ∧ (∀ r, (eb y2 fun r => ptS B n k 1 r.1 r.2) = .ok r → LwP M' t k r.2 2), c_tellPoint Ω M5 B n t k 1 y2 _ (by decide) P5' (S4.re U5) (fun r hr => ?_) (fun M' a b c d => ⟨rfl, a, b, c, d⟩), trivial, ?_⟩
  · rw [← hy2] at hr
    obtain ⟨r0, z1, z2⟩ := eb_ok hr
    obtain ⟨s0, z3, z4⟩ := eb_ok z2
    cases z4
    exact (L4 r0 z1).re U5
  rintro r M6 ⟨rfl, U6, P6, S6, L6⟩
  generalize hy3 : (eb y2 fun r => ptS B n k 1 r.1 r.2) = y3 at P6 L6
  conv => whnf
  generalize htl : (eb y3 fun q => ptL B n k 7 2 q.1 q.2) = tl
  have U36 : Un (wPt (8 * t + k)) M3 M6 := (U4.trans (U5.mono wPt_re)).trans U6
  refine lw_loop (M0 := M6) (tl := tl) (fun M7 r5 U7 P7 L7 => ?_) 7 2 y3 M6 rfl (by decide) (by decide) Un.rfl P6 S6 (fun r hr => ⟨?_, L6 r hr⟩) htl
  · -- the end
    refine go_wp ok_Reader_tellLaw [] 250 _ _ _ _ _ _ ?_
    conv => whnf
    refine ⟨fun r M' => r = none ∧ Un wRe M7 M' ∧ PsC M' B n (eb (eb tl fun r => .ok r.1) (tkS B n 59)), c_take Ω M7 B n 59 _ _ ⟨by decide, by decide⟩ P7 (fun M' a b => ⟨rfl, a, b⟩), trivial, ?_⟩
    rintro r M8 ⟨rfl, U8, P8⟩
    have U38 : Un (wPt (8 * t + k)) M3 M8 := (U36.trans U7).trans (U8.mono wPt_re)
    have U08 : Un (wLw t (8 * t + k)) M M8 := (((U1.mono wLw_re).trans (U2.mono wLw_na)).trans (U3.mono wLw_re)).trans (U38.mono wLw_pt)
    have c8 : mI M8 7 t 1 = nI k := (U38.I (wPt_na (by omega))).trans ((U3.I rfl).trans c2)
    conv => whnf
    rw [c8, nI_1]
    have w71 : wLw t (8 * t + k) 7 t 1 = true := by simp [wLw, nb_d]
    have U9 : Un (fun k i s => Nat.beq k 7 && Nat.beq s 1) M8 (sI M8 7 t 1 (nI (k + 1))) := Un.rfl.pI rfl
    have eq : eb (lwS B n so s C) (fun r => .ok r.1) = eb (eb tl fun r => .ok r.1) (tkS B n 59) := by
      rw [← htl, ← hy3, ← hy2, ← hy1, ← hy0, ← hx3, ← hx2, ← hx1]
      unfold lwS
      rw [hk, if_neg (by omega)]
      simp only [eb_eb, eb_k, eb_id]
    refine hK _ (U08.pI w71) ?_ ?_ (fun r hr => ⟨q, mI_eq, ?_, fun hn => ?_⟩)
    · rw [eq]
      exact P8.un U9 (fun s _ => rfl) (fun _ => rfl) (fun k s hk => by rcases hk with rfl | rfl | rfl | rfl | rfl <;> rfl)
    · obtain ⟨c, a, b⟩ := (S2.re U3).pt U38
      exact ⟨c, a, (mI_st rfl).trans b⟩
    all_goals
      unfold lwS at hr
      rw [hk, if_neg (by omega)] at hr
      obtain ⟨a1, g1, hr⟩ := eb_ok hr
      obtain ⟨a2, g2, hr⟩ := eb_ok hr
      obtain ⟨a3, g3, hr⟩ := eb_ok hr
      obtain ⟨a4, g4, hr⟩ := eb_ok hr
      obtain ⟨a5, g5, hr⟩ := eb_ok hr
      obtain ⟨a6, g6, hr⟩ := eb_ok hr
      obtain ⟨a7, g7, hr⟩ := eb_ok hr
      obtain ⟨a8, g8, hr⟩ := eb_ok hr
      cases hr
      have f2 : x2 = .ok a2 := by rw [← hx2, ← hx1, g1, eb_k]; exact g2
      have f3 : x3 = .ok a3 := by rw [← hx3, f2, eb_k, eb_k]; exact g3
      have f4 : y1 = .ok a4 := by rw [← hy1, ← hy0, f3, eb_k, eb_k]; exact g4
      have f6 : y3 = .ok a6 := by rw [← hy3, ← hy2, f4, eb_k, g5, eb_k, eb_k]; exact g6
      have f7 : tl = .ok a7 := by rw [← htl, f6, eb_k]; exact g7
    · obtain ⟨np, z1, z2, z3⟩ := L7 a7 f7
      refine ⟨np, z1, z2, ?_, fun j hj => ?_⟩
      · rw [mI_ne rfl]; exact (U8.I rfl).trans z3.1
      · rw [mI_ne rfl, mI_ne rfl]
        exact ⟨(U8.I rfl).trans (z3.2 j hj).1, (U8.I rfl).trans (z3.2 j hj).2⟩
    · have m : Mo a2.1 a8 := ((((tkS_mo g3).1.trans (ptS_mo g4)).trans (tkS_mo g5).1).trans (ptS_mo g6)).trans ((ptL_mo g7).trans (tkS_mo g8).1)
      have := ((N2 a2 f2 (m.2 hn)).re U3).pt U38
      exact this.un U9 rfl (fun k s hk => by rcases hk with rfl | rfl | rfl <;> rfl)
  · rw [← hy3] at hr
    obtain ⟨r0, z1, z2⟩ := eb_ok hr
    exact (ptS_T z2 (by decide)).2
