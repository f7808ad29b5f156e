/-! READ: the model's reader: a hinge told -/
theorem NmM.un {w : Nat → Nat → Nat → Bool} {M M' : Mem} {p nl nh nw nb : Nat} {N : Nm} (h : NmM M p N nl nh nw nb) (hU : Un w M M') (hw : ∀ k s, k = 75 ∨ k = 76 ∨ k = 81 ∨ k = 85 ∨ k = 98 → w k 0 s = false) : NmM M' p N nl nh nw nb := by
  obtain ⟨a1, a2, a3, a4, a5, a6⟩ := h
  refine ⟨fun k hk => ?_, fun k hk => ?_, fun k hk => ?_, fun k hk => ?_, fun q hq => ?_, a6⟩
  · rw [hU.J (hw 75 _ (by omega)), hU.I (hw 76 _ (by omega))]; exact a1 k hk
  · rw [hU.J (hw 81 _ (by omega))]; exact a2 k hk
  · rw [hU.J (hw 85 _ (by omega))]; exact a3 k hk
  · rw [hU.J (hw 98 _ (by omega))]; exact a4 k hk
  · rw [hU.J (hw 75 _ (by omega)), hU.J (hw 81 _ (by omega)), hU.J (hw 85 _ (by omega)), hU.J (hw 98 _ (by omega))]; exact a5 q hq
theorem NmM.me {M M' : Mem} {p nl nh nw nb : Nat} {N : Nm} (h : NmM M p N nl nh nw nb) (hU : Un wMe M M') : NmM M' p N nl nh nw nb := h.un hU (fun k s hk => by rcases hk with rfl | rfl | rfl | rfl | rfl <;> rfl)
theorem hi_chain {B : Nat → Nat} {n : Nat} {s : Ps} {C : Cn} {v : Int32} (hx : xh C < 4) (hv : ∀ r, eb (eb (eb (tkS B n 202 s) fun s => nmS B n 202 (xh C) s (xN C)) fun r => .ok r.1) (numS B n false) = .ok r → v = r.2) :
    eb (eb (eb (eb (eb (eb (tkS B n 202 s) fun s => nmS B n 202 (xh C) s (xN C)) fun r => .ok r.1) (numS B n false)) fun r => .ok r.1) fun s => .ok (blS 5 (decide (v < 1) || decide (30 < v)) s)) (tkS B n 59) = eb (hiS B n s C) fun r => .ok r.1 := by
  unfold hiS
  rw [if_neg (by omega)]
  cases h1 : tkS B n 202 s with
  | error f => rfl
  | ok s1 =>
    rw [h1] at hv
    simp only [eb_k] at hv ⊢
    cases h2 : nmS B n 202 (xh C) s1 (xN C) with
    | error f => rfl
    | ok r1 =>
      rw [h2] at hv
      simp only [eb_k] at hv ⊢
      rw [nu_num]
      cases h3 : numS B n false r1.1 with
      | error f => rfl
      | ok q =>
        have := hv q h3
        subst this
        simp only [eb_k]
        cases tkS B n 59 (blS 5 (decide (q.2 < 1) || decide (30 < q.2)) q.1) with
        | error f => rfl
        | ok s2 => rfl
def wHm (p h k i s : Nat) : Bool := wMn k i s || ((Nat.beq k 81 || Nat.beq k 82) && Nat.beq s (4 * p + h) || Nat.beq k 80 && Nat.beq s p)
def wHn (p h k _i s : Nat) : Bool := (Nat.beq k 81 || Nat.beq k 82) && Nat.beq s (4 * p + h) || Nat.beq k 80 && Nat.beq s p
theorem wHm_hn {p h : Nat} : ∀ k i s, wHm p h k i s = false → wHn p h k i s = false := fun k i s q => (Bool.or_eq_false_iff.mp q).2
theorem wHm_mn {p h : Nat} : ∀ k i s, wHm p h k i s = false → wMn k i s = false := fun k i s q => (Bool.or_eq_false_iff.mp q).1
theorem wHm_me {p h : Nat} : ∀ k i s, wHm p h k i s = false → wMe k i s = false := fun k i s q => wMn_me k i s (wHm_mn k i s q)
set_option maxHeartbeats 2000000 in
theorem c_MD_tellHinge (Ω : Om) (M : Mem) (B : Nat → Nat) (n p nl nw nb : Nat) (s : Ps) (C : Cn) (K : Ka) (hn : n ≤ 2000) (h : PsM M B n (.ok s)) (htk : tkK B n s.1 = 202) (hx : xh C < 4) (hp : p < 4) (h20 : mI M 12 0 20 = nI p) (h74 : mI M 74 0 p = nI nl) (h80 : mI M 80 0 p = nI (xh C)) (h84 : mI M 84 0 p = nI nw) (h97 : mI M 97 0 p = nI nb) (hl : nl ≤ 8) (hw : nw ≤ 4) (hb : nb ≤ 8)
    (hN : s.2.2 = none → NmM M p (xN C) nl (xh C) nw nb)
    (hK : ∀ M', Un (wHm p (xh C)) M M' → PsM M' B n (eb (hiS B n s C) fun r => .ok r.1) → (∀ r, hiS B n s C = .ok r → mI M' 80 0 p = nI (xh C + 1) ∧ mI M' 82 0 (4 * p + xh C) = xT r.2 82 (xh C) ∧ (r.1.2.2 = none → nmI (xN C) (mJ M' 81 0 (4 * p + xh C)) = false ∧ xN r.2 = xN C ++ [(mJ M' 81 0 (4 * p + xh C), 202, xh C)])) → K none M') :
    CallS Ω true m_MD_tellHinge [vR (some (12, 0))] M K := by
  have h5 := h.2.1.1.1
  refine call_go (hJL rfl) (Nat.le_of_ble_eq_true rfl) (go_wp ok_MD_tellHinge [] 250 _ _ _ _ _ _ ?_)
  refine And.intro (fun _ => ?_) (fun q => absurd (show mI M 12 0 13 ≤ 0 by rw [h.2.2.2.1]; decide) q)
  conv => whnf
  rw [h20]
  refine And.intro (vp_in_nI (by omega) (by decide)) ?_
  rw [nI_clamp (by omega), h80, show (4 : Int32) = nI 4 from rfl, pk_mul]
  conv => whnf
  rw [nI_add]
  refine ⟨fun r M' => r = none ∧ Un wMe M M' ∧ PsM M' B n (tkS B n 202 s), c_MD_goesOn Ω M B n s _ (by omega) h (fun M' a b => ⟨rfl, a, by unfold tkS; rw [if_pos htk]; exact b⟩), trivial, ?_⟩
  rintro r M1 ⟨rfl, U1, P1⟩
  conv => whnf
  have k20 : mI M1 12 0 20 = nI p := (U1.I rfl).trans h20
  have hc := @hi_chain B n s C
  have hN1 : ∀ s', tkS B n 202 s = .ok s' → s'.2.2 = none → NmM M1 p (xN C) nl (xh C) nw nb := fun s' hs hl => (hN ((tkS_mo hs).1.2 hl)).me U1
  refine ⟨fun r M' => r = some (vI (mI M1 12 0 11)) ∧ Un wMe M1 M' ∧ PsM M' B n (eb (eb (tkS B n 202 s) fun s => nmS B n 202 (xh C) s (xN C)) fun r => .ok r.1), c_MD_named Ω M1 B n p 202 (xh C) nl (xh C) nw nb (xN C) _ _ hn P1 hp k20 ((U1.I rfl).trans h74) ((U1.I rfl).trans h80) ((U1.I rfl).trans h84) ((U1.I rfl).trans h97) hl (by omega) hw hb hN1 (fun M' a b => ⟨rfl, a, b⟩), trivial, ?_⟩
  rintro r M2 ⟨rfl, U2, P2⟩
  conv => whnf
  refine ⟨fun r M' => ∃ v, r = some (vI v) ∧ Un wMn M2 M' ∧ PsM M' B n (eb (eb (eb (eb (tkS B n 202 s) fun s => nmS B n 202 (xh C) s (xN C)) fun r => .ok r.1) (numS B n false)) fun r => .ok r.1) ∧ (∀ r, eb (eb (eb (tkS B n 202 s) fun s => nmS B n 202 (xh C) s (xN C)) fun r => .ok r.1) (numS B n false) = .ok r → v = r.2 ∧ mI M' 12 0 58 = nI r.1.2.1), c_MD_number Ω M2 B n false _ _ P2 (fun M' v a b c => ⟨v, rfl, a, b, c⟩), trivial, ?_⟩
  rintro r M3 ⟨v, rfl, U3, P3, V3⟩
  conv => whnf
  have H3 := nu_hs (z := false) P2
  have hc := hc hx (fun r hr => (V3 r hr).1)
  generalize hx3 : eb (eb (eb (tkS B n 202 s) fun s => nmS B n 202 (xh C) s (xN C)) fun r => .ok r.1) (numS B n false) = x3 at P3 V3 H3 hc
  refine ⟨fun r M' => r = none ∧ Un wMe M3 M' ∧ PsM M' B n (eb (eb x3 fun r => .ok r.1) fun s => .ok (blS 5 (decide (v < 1) || decide (30 < v)) s)), c_MD_within Ω M3 B n v 1 30 _ _ hn P3 (fun s' hs' => ?_) (fun M' a b => ⟨rfl, a, b⟩), trivial, ?_⟩
  · obtain ⟨r, q1, q2⟩ := eb_ok hs'
    cases q2
    exact ⟨(H3 r q1).1, (H3 r q1).2, (V3 r q1).2⟩
  rintro r M4 ⟨rfl, U4, P4⟩
  conv => whnf
  refine ⟨fun r M' => r = none ∧ Un wMe M4 M' ∧ PsM M' B n (eb (hiS B n s C) fun r => .ok r.1), c_MD_must Ω M4 B n 59 4 _ _ rfl (by decide) rfl (by decide) P4 (fun M' a b => ⟨rfl, a, by rw [← hc]; exact b⟩), trivial, ?_⟩
  rintro r M5 ⟨rfl, U5, P5⟩
  have U15 : Un wMn M M5 := (U1.mono wMn_me).trans ((U2.mono wMn_me).trans (U3.trans ((U4.mono wMn_me).trans (U5.mono wMn_me))))
  rcases rm_fault P5 with ⟨f, e1, e2, e3⟩ | ⟨s', e1, e2, e3⟩
  · refine And.intro (fun q => absurd q e3) (fun _ => ?_)
    exact hK M5 (U15.mono wHm_mn) P5 (fun r hr => by rw [hr, eb_k] at e1; cases e1)
  refine And.intro (fun _ => ?_) (fun q => absurd (show mI M5 12 0 13 ≤ 0 by rw [e2]; decide) q)
  obtain ⟨r, hr, -⟩ := eb_ok e1
  have hr2 := hr
  unfold hiS at hr2
  rw [if_neg (by omega)] at hr2
  obtain ⟨s1, g1, g2⟩ := eb_ok hr2
  obtain ⟨r1, g3, g4⟩ := eb_ok g2
  obtain ⟨q, g5, g6⟩ := eb_ok g4
  obtain ⟨s2, g7, g8⟩ := eb_ok g6
  have g5m := nuS_mo g5
  rw [nu_num] at g5
  obtain ⟨q0, z1, z2⟩ := eb_ok g5
  have hv : v = q.2 := by
    rw [(V3 q0 (by rw [← hx3, g1]; simp only [eb_k, g3]; exact z1)).1]
    cases z2
    rfl
  obtain ⟨s3, y1, y2⟩ := eb_ok g3
  obtain ⟨hk2, _, hs3⟩ := tkS_ok y1
  rw [g1] at P1
  have hr1 := P1.2.1.1
  have h51 := hr1.1
  have hname : mJ M5 72 0 s1.1 = tkV B n s1.1 := (P5.1 s1.1 hr1).2.2.2 hk2
  have m20 : mI M5 12 0 20 = nI p := (U15.I rfl).trans h20
  have m80 : mI M5 80 0 p = nI (xh C) := (U15.I rfl).trans h80
  rw [P1.2.2.1]
  conv => whnf
  refine And.intro (vp_in_nI (by omega) (by decide)) ?_
  rw [nI_clamp (by omega), hname]
  conv => whnf
  refine And.intro (vp_in_nI (by omega) (by decide)) ?_
  rw [nI_clamp (by omega)]
  conv => whnf
  refine And.intro (vp_in_nI (by omega) (by decide)) ?_
  rw [nI_clamp (by omega)]
  conv => whnf
  generalize hMa : sI (sJ M5 81 0 (4 * p + xh C) (tkV B n s1.1)) 82 0 (4 * p + xh C) v = Ma
  have ma20 : mI Ma 12 0 20 = nI p := by rw [← hMa, mI_ne rfl, mI_sJ]; exact m20
  have ma80 : mI Ma 80 0 p = nI (xh C) := by rw [← hMa, mI_ne rfl, mI_sJ]; exact m80
  rw [ma20]
  refine And.intro (vp_in_nI (by omega) (by decide)) ?_
  rw [nI_clamp (by omega), ma80]
  conv => whnf
  rw [nI_1]
  refine And.intro (vp_in_nI (by omega) (by decide)) ?_
  rw [nI_clamp (by omega)]
  conv => whnf
  have U6 : Un (wHn p (xh C)) M5 (sI Ma 80 0 p (nI (xh C + 1))) := by
    rw [← hMa]
    exact ((Un.rfl.pJ (by simp [wHn, nb_d])).pI (by simp [wHn, nb_d])).pI (by simp [wHn, nb_d])
  refine hK _ ((U15.mono wHm_mn).trans (U6.mono wHm_hn)) (P5.un U6 (fun s _ _ _ => rfl) (fun k s h1 h2 => by simp [wHn, nb_d]; omega)) (fun r' hr' => ?_)
  rw [hr] at hr'
  cases hr'
  cases g8
  refine ⟨mI_eq, ?_, fun hl => ?_⟩
  · rw [mI_ne rfl, ← hMa, mI_eq, hv]
    show q.2 = upT (xT C) 82 (xh C) q.2 82 (xh C)
    unfold upT
    rw [if_pos ⟨rfl, rfl⟩]
  · have e81 : mJ (sI Ma 80 0 p (nI (xh C + 1))) 81 0 (4 * p + xh C) = tkV B n s1.1 := by
      rw [mJ_sI, ← hMa, mJ_sI, mJ_sJ, if_pos ⟨rfl, rfl, rfl⟩]
    have l1 : r1.1.2.2 = none := g5m.2 ((tkS_mo g7).1.2 hl)
    rw [e81]
    cases y2
    have e3 : s3.2.1 = s1.1 := by rw [hs3]
    rw [e3] at l1
    have hb2 : nmI (xN C) (tkV B n s1.1) = false := by
      cases hb3 : nmI (xN C) (tkV B n s1.1) with
      | false => rfl
      | true =>
        rw [hb3] at l1
        cases l1
    refine ⟨hb2, ?_⟩
    show (if nmI (xN C) (tkV B n s3.2.1) = true then xN C else xN C ++ [(tkV B n s3.2.1, 202, xh C)]) = _
    rw [e3, hb2, if_neg (by decide)]
