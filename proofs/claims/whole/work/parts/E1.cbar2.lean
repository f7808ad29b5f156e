/-! READ: the class's reader: a bar, II -/
def wBa (t k i s : Nat) : Bool := wEx t k i s || (wNb t k i s || wCb t k i s)
theorem wBa_ex {t : Nat} : ∀ k i s, wBa t k i s = false → wEx t k i s = false := fun k i s h => (Bool.or_eq_false_iff.mp h).1
theorem wBa_nb {t : Nat} : ∀ k i s, wBa t k i s = false → wNb t k i s = false := fun k i s h => (Bool.or_eq_false_iff.mp (Bool.or_eq_false_iff.mp h).2).1
theorem wBa_cb {t : Nat} : ∀ k i s, wBa t k i s = false → wCb t k i s = false := fun k i s h => (Bool.or_eq_false_iff.mp (Bool.or_eq_false_iff.mp h).2).2
theorem wBa_re {t : Nat} : ∀ k i s, wBa t k i s = false → wRe k i s = false := fun k i s h => wEx_re k i s (wBa_ex k i s h)
theorem wBa_na {t : Nat} : ∀ k i s, wBa t k i s = false → wNa t k i s = false := fun k i s h => by unfold wNa; rw [wBa_re k i s h, wBa_nb k i s h]; rfl
theorem San4.na {M M' : Mem} {t : Nat} (h : San4 M t) (hU : Un (wNa t) M M') : San4 M' t := by
  obtain ⟨c, a, b⟩ := h
  exact ⟨c, a, (hU.I (by simp [wNa, wNb, wRe, nb_d])).trans b⟩
theorem StpC.na {M M' : Mem} {t : Nat} {xs : List (Int32 × Int32)} (h : StpC M t xs) (hU : Un (wNa t) M M') : StpC M' t xs := ⟨⟨(hU.I (by simp [wNa, wNb, wRe, nb_d])).trans h.1.1, h.1.2⟩, h.2.un hU (fun _ _ => by simp [wNa, wNb, wRe, nb_d]) (fun _ _ => by simp [wNa, wNb, wRe, nb_d])⟩
theorem NmC.ex {M M' : Mem} {t : Nat} {N : Nm} (h : NmC M t N) (hU : Un (wEx t) M M') : NmC M' t N := h.un hU (by simp [wEx, wUn, wRe, wSp, wPn, nb_d]) (fun k s hk => by simp [wEx, wUn, wRe, wSp, wPn, nb_d]; omega)
theorem San1.ex {M M' : Mem} {t : Nat} (h : San1 M t) (hU : Un (wEx t) M M') : San1 M' t := by
  obtain ⟨c, a, b⟩ := h
  exact ⟨c, a, (hU.I (by simp [wEx, wUn, wRe, wSp, wPn, nb_d])).trans b⟩
set_option maxHeartbeats 4000000 in
set_option maxRecDepth 4000 in
theorem c_tellBar (Ω : Om) (M : Mem) (B : Nat → Nat) (n t : Nat) (s : Ps) (C : Cn) (K : Ka) (h : PsC M B n (.ok s)) (h1 : mI M 0 t 4 = nI (xb C)) (h8 : xb C ≤ 8) (hS1 : San1 M t) (hS4 : San4 M t) (hN : s.2.2 = none → NmC M t (xN C)) (hlen : xb C < 8 → (xN C).length < 24)
    (hK : ∀ M', Un (wBa t) M M' → PsC M' B n (eb (baS B n s C) fun r => .ok r.1) → San1 M' t → San4 M' t → (∀ r, baS B n s C = .ok r → xb C < 8 ∧ mI M' 0 t 4 = nI (xb C + 1) ∧ (∀ i, ¬ i = xb C → mI M' 15 t i = mI M 15 t i) ∧ (∀ xs, StpC M t xs → xs.length ≤ s.1 → StpC M' t (xs ++ BrC (xL r.2 (xb C))) ∧ mI M' 15 t (xb C) = nI (xs ++ BrC (xL r.2 (xb C))).length) ∧ (r.1.2.2 = none → NmC M' t (xN r.2))) → K none M') :
    CallS Ω true m_Reader_tellBar [vR (some (4, 0)), vR (some (7, t))] M K := by
  generalize hk : xb C = k at *
  refine call_go (hJL rfl) (Nat.le_of_ble_eq_true rfl) (go_wp ok_Reader_tellBar [] 250 _ _ _ _ _ _ ?_)
  conv => whnf
  rw [h1]
  refine And.intro (fun z => absurd z (nI_pos (by omega))) (fun _ => And.intro (fun z => ?_) (fun z => ?_))
  rotate_left
  · have z : ¬ nI k < nI 8 := z
    rw [nI_ltI (by omega) (by omega)] at z
    conv => whnf
    refine ⟨fun r M' => r = none ∧ Un wRe M M' ∧ PsC M' B n (eb (.ok s) fun s => .error (2, s.1)), c_stop Ω M B n 2 (.ok s) _ (Or.inr rfl) h (fun M' a b => ⟨rfl, a, b⟩), trivial, ?_⟩
    rintro r M1 ⟨rfl, q1, q2⟩
    conv => whnf
    have e : baS B n s C = .error (2, s.1) := by unfold baS; rw [hk, if_pos (by omega)]
    refine hK M1 (q1.mono wBa_re) ?_ (hS1.re q1) (hS4.re q1) (fun r hr => by rw [e] at hr; cases hr)
    rw [e, eb_x]
    rw [eb_k] at q2
    exact q2
  have z : nI k < nI 8 := z
  rw [nI_ltI (by omega) (by omega)] at z
  have hlen := hlen z
  conv => whnf
  refine ⟨fun r M' => r = none ∧ Un wRe M M' ∧ PsC M' B n (tkS B n 204 s), c_take Ω M B n 204 (.ok s) _ (by omega) h (fun M' a b => ⟨rfl, a, by rw [eb_k] at b; exact b⟩), trivial, ?_⟩
  rintro r M1 ⟨rfl, U1, P1⟩
  generalize hx1 : tkS B n 204 s = x1 at P1
  conv => whnf
  refine ⟨fun r M' => r = none ∧ Un (wNa t) M1 M' ∧ PsC M' B n (eb (eb x1 fun s => nmS B n 204 k s (xN C)) fun r => .ok r.1) ∧ San1 M' t ∧ (∀ r, (eb x1 fun s => nmS B n 204 k s (xN C)) = .ok r → r.1.2.2 = none → NmC M' t r.2), c_named Ω M1 B n t 204 k (xN C) x1 _ (by omega) P1 (hS1.re U1) hlen (fun s' hs' hn => (hN (by rw [← hx1] at hs'; exact (tkS_mo hs').1.2 hn)).re U1) (fun M' a b c d => ⟨rfl, a, b, c, d⟩), trivial, ?_⟩
  rintro r M2 ⟨rfl, U2, P2, S2, N2⟩
  generalize hx2 : (eb x1 fun s => nmS B n 204 k s (xN C)) = x2 at P2 N2
  conv => whnf
  refine ⟨fun r M' => r = none ∧ Un wRe M2 M' ∧ PsC M' B n (eb (eb x2 fun r => .ok r.1) (tkS B n 209)), c_take Ω M2 B n 209 _ _ ⟨by decide, by decide⟩ P2 (fun M' a b => ⟨rfl, a, b⟩), trivial, ?_⟩
  rintro r M3 ⟨rfl, U3, P3⟩
  generalize hx3 : eb (eb x2 fun r => .ok r.1) (tkS B n 209) = x3 at P3
  have S43 : San4 M3 t := ((hS4.re U1).na U2).re U3
  conv => whnf
  refine ⟨fun r M' => r = none ∧ Un (wEx t) M3 M' ∧ PsC M' B n (eb x3 fun s => eb (coS B n 501 true [] s.1) fun r => .ok (r.1, r.1 - 1, s.2.2)) ∧ San4 M' t ∧ (∀ s r xs, x3 = .ok s → coS B n 501 true [] s.1 = .ok r → StpC M3 t xs → xs.length ≤ s.1 → StpC M' t (xs ++ BrC r.2)), c_condition Ω M3 B n t x3 _ P3 S43 (fun M' a b c d => ⟨rfl, a, b, c, d⟩), trivial, ?_⟩
  rintro r M4 ⟨rfl, U4, P4, S4, A4⟩
  generalize hx4 : (eb x3 fun s => eb (coS B n 501 true [] s.1) fun r => .ok (r.1, r.1 - 1, s.2.2) : Except Fa Ps) = x4 at P4
  conv => whnf
  refine ⟨fun r M' => r = none ∧ Un wRe M4 M' ∧ PsC M' B n (eb x4 (tkS B n 59)), c_take Ω M4 B n 59 _ _ ⟨by decide, by decide⟩ P4 (fun M' a b => ⟨rfl, a, b⟩), trivial, ?_⟩
  rintro r M5 ⟨rfl, U5, P5⟩
  have U05 : Un (wBa t) M M5 := ((((U1.mono wBa_re).trans (U2.mono wBa_na)).trans (U3.mono wBa_re)).trans (U4.mono wBa_ex)).trans (U5.mono wBa_re)
  have e15 : ∀ i, mI M5 15 t i = mI M 15 t i := fun i => (U5.I rfl).trans ((U4.I (by simp [wEx, wUn, wRe, wSp, wPn, nb_d])).trans ((U3.I rfl).trans ((U2.I (by simp [wNa, wNb, wRe, nb_d])).trans (U1.I rfl))))
  have c5 : mI M5 0 t 4 = nI k := ((U5.I rfl).trans ((U4.I (by simp [wEx, wUn, wRe, wSp, wPn, nb_d])).trans ((U3.I rfl).trans ((U2.I (by simp [wNa, wNb, wRe, nb_d])).trans (U1.I rfl))))).trans h1
  obtain ⟨q, hq, q5⟩ := S4.re U5
  conv => whnf
  refine cl_use (fun K h => c_closeBar Ω M5 t k q K z c5 q5 h) trivial ?_
  conv => whnf
  have w15 : wCb t 15 t k = true := by simp [wCb, nb_d]
  have w04 : wCb t 0 t 4 = true := by simp [wCb, nb_d]
  have UE : Un (wCb t) M5 (sI (sI M5 15 t k (nI q)) 0 t 4 (nI (k + 1))) := (Un.rfl.pI w15).pI w04
  have eq : eb (baS B n s C) (fun r => .ok r.1) = eb x4 (tkS B n 59) := by
    rw [← hx4, ← hx3, ← hx2, ← hx1]
    unfold baS
    rw [hk, if_neg (by omega)]
    simp only [eb_eb, eb_k, eb_id]
  refine hK _ (U05.trans (UE.mono wBa_cb)) ?_ ?_ ⟨q, hq, ?_⟩ (fun r hr => ⟨z, mI_eq, fun i hi => ?_, ?_, fun hn => ?_⟩)
  · rw [eq]
    exact P5.un UE (fun s _ => by simp [wCb, nb_d]) (fun _ => by simp [wCb, nb_d]) (fun k s hk => by simp [wCb, nb_d]; omega)
  · obtain ⟨c, a, b⟩ := ((S2.re U3).ex U4).re U5
    exact ⟨c, a, (UE.I (by simp [wCb, nb_d])).trans b⟩
  · rw [mI_st rfl, mI_ne rfl]; exact q5
  · rw [mI_ne rfl, mI_sI, if_neg (fun y => hi y.2.2)]; exact e15 i
  all_goals
    unfold baS at hr
    rw [hk, if_neg (by omega)] at hr
    obtain ⟨a1, g1, hr⟩ := eb_ok hr
    obtain ⟨a2, g2, hr⟩ := eb_ok hr
    obtain ⟨a3, g3, hr⟩ := eb_ok hr
    obtain ⟨a4, g4, hr⟩ := eb_ok hr
    obtain ⟨a5, g5, hr⟩ := eb_ok hr
    cases hr
    have f2 : x2 = .ok a2 := by rw [← hx2, ← hx1, g1, eb_k]; exact g2
    have f3 : x3 = .ok a3 := by rw [← hx3, f2, eb_k, eb_k]; exact g3
  · intro xs hx hxl
    have m3 : s.1 ≤ a3.1 := ((tkS_mo g1).1.trans ((nmS_mo g2).trans (tkS_mo g3).1)).1
    have A := (A4 a3 a4 xs f3 g4 (((hx.re U1).na U2).re U3) (by omega)).re U5
    show StpC _ t (xs ++ BrC (if k = k then a4.2 else xL C k)) ∧ mI _ 15 t k = nI (xs ++ BrC (if k = k then a4.2 else xL C k)).length
    rw [if_pos rfl]
    have el : q = (xs ++ BrC a4.2).length := by
      have := A.1.1
      rw [q5] at this
      exact (nI_eq (by omega) (by have := A.1.2; omega)).mp this
    refine ⟨⟨⟨?_, A.1.2⟩, A.2.un UE (fun _ _ => by simp [wCb, nb_d]) (fun _ _ => by simp [wCb, nb_d])⟩, ?_⟩
    · rw [mI_st rfl, mI_ne rfl]; exact A.1.1
    · rw [mI_ne rfl, mI_eq, el]
  · have m : Mo a2.1 a3 := (tkS_mo g3).1
    have hn2 : a2.1.2.2 = none := m.2 ((tkS_mo g5).1.2 hn)
    exact (((((N2 a2 f2 hn2).re U3).ex U4).re U5)).un UE (by simp [wCb, nb_d]) (fun k s hk => by simp [wCb, nb_d]; omega)
