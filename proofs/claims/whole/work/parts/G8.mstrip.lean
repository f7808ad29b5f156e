/-! READ: the model's reader: a strip told -/
def wSk (p w k _i s : Nat) : Bool := (Nat.ble 92 k && Nat.ble k 96) && Nat.beq (s / 10) (4 * p + w)
def wSq2 (p w k i s : Nat) : Bool := wMn k i s || wSk p w k i s
theorem wSq2_mn {p w : Nat} : ∀ k i s, wSq2 p w k i s = false → wMn k i s = false := fun k i s q => (Bool.or_eq_false_iff.mp q).1
theorem wSq2_me {p w : Nat} : ∀ k i s, wSq2 p w k i s = false → wMe k i s = false := fun k i s q => wMn_me k i s (wSq2_mn k i s q)
theorem wSq2_1 {p w k0 ns : Nat} (h1 : 92 ≤ k0) (h2 : k0 ≤ 96) (h3 : ns < 10) : ∀ k i s, wSq2 p w k i s = false → w1 k0 (10 * (4 * p + w) + ns) k i s = false := mono_of (fun k i s g => by
  have : k = k0 ∧ s = 10 * (4 * p + w) + ns := by simpa [w1, nb_d] using g
  simp [wSq2, wSk, wMn, nb_d, nl_d]
  omega)
theorem wSq2_nm {p w : Nat} : ∀ k s, k = 75 ∨ k = 76 ∨ k = 81 ∨ k = 85 ∨ k = 98 → wSq2 p w k 0 s = false := fun k s hk => by rcases hk with rfl | rfl | rfl | rfl | rfl <;> rfl
theorem PgX.u1 {P : Nat → Bool} {M M' : Mem} {p g q b : Nat} {T : Tx} {x : Int32} (h : PgX P M p T) (hU : Un (w1 g q) M M') (hx : mI M' g 0 q = x) (hq : q = szf g * p + b) : PgX P M' p (upT T g b x) := fun f a hf ha => by
  show _ = if f = g ∧ a = b then x else T f a
  by_cases c : f = g ∧ a = b
  · rw [if_pos c, c.1, c.2, ← hq]; exact hx
  · rw [if_neg c, hU.I (show w1 g q f 0 (szf f * p + a) = false from Bool.eq_false_iff.mpr (fun z => by
      have z : f = g ∧ szf f * p + a = q := by simpa [w1, nb_d] using z
      refine c ⟨z.1, ?_⟩
      have z2 := z.2
      rw [hq, z.1] at z2
      exact Nat.add_left_cancel z2))]
    exact h f a hf ha
theorem PgX.ct {P : Nat → Bool} {M : Mem} {p : Nat} {T T' : Tx} (h : PgX P M p T) (e : ∀ f a, P f = true → T' f a = T f a) : PgX P M p T' := fun f a hf ha => by rw [e f a hf]; exact h f a hf ha
theorem PgX.mx {M M' : Mem} {p : Nat} {T : Tx} (h : PgX nmf M p T) (hU : Un wMn M M') : PgX nmf M' p T := h.un hU (fun f a hf => by rcases nmf_ge hf with rfl | rfl | rfl <;> rfl)
theorem upT_2 {T : Tx} {f a : Nat} {x y : Int32} : upT (upT T f a x) f a y = upT T f a y := by
  funext f' a'
  unfold upT
  by_cases c : f' = f ∧ a' = a
  · rw [if_pos c, if_pos c]
  · rw [if_neg c, if_neg c, if_neg c]
theorem st_ix {p w ns f : Nat} (h : szf f = 40) : 10 * (4 * p + w) + ns = szf f * p + (10 * w + ns) := by rw [h]; omega
theorem st_pgf {T : Tx} {w ns : Nat} {x1 x2 x3 x4 x5 : Int32} : ∀ f a, pgf f = true → sT T w ns x1 x2 x3 x4 x5 f a = upT (upT (upT T 92 (10 * w + ns) x1) 95 (10 * w + ns) x4) 86 w (nI (ns + 1)) f a := fun f a hf => by
  have q := pgf_ge hf
  have q2 : ¬ f = 96 := by omega
  simp only [sT, upT, q.2.2.2.2.2.2.1, q.2.2.2.2.2.2.2, q2, false_and, if_false]
theorem st_nmf {T : Tx} {w ns : Nat} {x1 x2 x3 x4 x5 : Int32} : ∀ f a, nmf f = true → sT T w ns x1 x2 x3 x4 x5 f a = upT (upT (upT T 93 (10 * w + ns) x2) 94 (10 * w + ns) x3) 96 (10 * w + ns) x5 f a := fun f a hf => by
  have q := nmf_ge hf
  have q1 : ¬ f = 92 := by omega
  have q2 : ¬ f = 95 := by omega
  have q3 : ¬ f = 86 := by omega
  simp only [sT, upT, q1, q2, q3, false_and, if_false]
theorem st_chain {B : Nat → Nat} {n w ns : Nat} {N : Nm} {s : Ps} {T : Tx} : eb (stpS B n w ns N s T) (fun r => .ok r.1) = eb (eb (eb (eb (eb (eb (eb (eb (eb (.ok s) (nuS B n 1 9)) fun r => .ok r.1) fun s => knS B n 200 s N) fun r => .ok r.1) fun s => knS B n 201 s N) fun r => .ok r.1) (sdS B n 30)) fun r => .ok r.1) (fun s => eb (onS B n N s) fun r => .ok r.1) := by
  rw [stp_eq, eb_k]
  cases nuS B n 1 9 s with
  | error f => rfl
  | ok r1 =>
    simp only [eb_k]
    cases knS B n 200 r1.1 N with
    | error f => rfl
    | ok r2 =>
      simp only [eb_k]
      cases knS B n 201 r2.1 N with
      | error f => rfl
      | ok r3 =>
        simp only [eb_k]
        cases sdS B n 30 r3.1 with
        | error f => rfl
        | ok r4 =>
          simp only [eb_k]
          cases onS B n N r4.1 with
          | error f => rfl
          | ok r5 => rfl
/-- what a strip told comes to -/
theorem st_parts {B : Nat → Nat} {n w ns : Nat} {N : Nm} {s : Ps} {T : Tx} {r : Ps × Tx} (h : stpS B n w ns N s T = .ok r) : ∃ r1 r2 r3 r4 r5, nuS B n 1 9 s = .ok r1 ∧ knS B n 200 r1.1 N = .ok r2 ∧ knS B n 201 r2.1 N = .ok r3 ∧ sdS B n 30 r3.1 = .ok r4 ∧ onS B n N r4.1 = .ok r5 ∧ r = (r5.1, sT T w ns r1.2 (nI (r2.2.getD 0)) (nI (r3.2.getD 0)) r4.2 (hI r5.2)) ∧ (r.1.2.2 = none → r2.1.2.2 = none ∧ r3.1.2.2 = none ∧ r5.1.2.2 = none) := by
  rw [stp_eq] at h
  obtain ⟨r1, h1, h⟩ := eb_ok h
  obtain ⟨r2, h2, h⟩ := eb_ok h
  obtain ⟨r3, h3, h⟩ := eb_ok h
  obtain ⟨r4, h4, h⟩ := eb_ok h
  obtain ⟨r5, h5, h⟩ := eb_ok h
  refine ⟨r1, r2, r3, r4, r5, h1, h2, h3, h4, h5, ?_, fun hl => ?_⟩
  · cases h; rfl
  · cases h
    have l4 := (onS_mo h5).2 hl
    have l3 := (sdS_mo h4).2 l4
    exact ⟨(knS_mo h3).2 l3, l3, hl⟩
set_option maxHeartbeats 8000000 in
theorem st_turn {Ω : Om} {K : Ka} {B : Nat → Nat} {n p w ns nl nh nw nb : Nat} {s : Ps} {T : Tx} {N : Nm} {M : Mem} {tt a4 : Option Vl} (hn : n ≤ 2000) (hp : p < 4) (hw : w < 4) (hns : ns < 10) (h : PsM M B n (.ok s)) (h20 : mI M 12 0 20 = nI p) (h74 : mI M 74 0 p = nI nl) (hl : nl ≤ 8) (h80 : mI M 80 0 p = nI nh) (hh : nh ≤ 4) (h86 : mI M 86 0 (4 * p + w) = nI ns)
    (hPg : PgX pgf M p T) (hPn : s.2.2 = none → PgX nmf M p T) (hNm : s.2.2 = none → ∃ N0, NmM M p N0 nl nh nw nb ∧ ∀ x so, ¬ so = 203 → ¬ so = 204 → nmF N x so = nmF N0 x so)
    (hK : ∀ Mx, Un (wSq2 p w) M Mx → PsM Mx B n (eb (stpS B n w ns N s T) fun r => .ok r.1) → (∀ r, stpS B n w ns N s T = .ok r → PgX pgf (sI Mx 86 0 (4 * p + w) (nI (ns + 1))) p r.2 ∧ (r.1.2.2 = none → PgX nmf (sI Mx 86 0 (4 * p + w) (nI (ns + 1))) p r.2)) → GoS Ω true m_MD_tellWing K 205 [some (vR (some (12, 0))), some (vI (nI (4 * p + w))), tt, some (vI 1), some (vI (nI (10 * (4 * p + w) + ns)))] [] Mx 0 0) :
    GoS Ω true m_MD_tellWing K 83 [some (vR (some (12, 0))), some (vI (nI (4 * p + w))), tt, some (vI 1), a4] [] M 0 0 := by
  have hq : 10 * (4 * p + w) + ns < 200 := by omega
  generalize hqe : 10 * (4 * p + w) + ns = q at hq hK
  refine go_wp ok_MD_tellWing [205] 250 _ _ _ _ _ _ ?_
  conv => whnf
  refine And.intro (vp_in_nI (by omega) (by decide)) ?_
  rw [nI_clamp (by omega), h86, show (10 : Int32) = nI 10 from rfl, pk_mul]
  conv => whnf
  rw [nI_add, hqe]
  refine ⟨fun r M' => ∃ v, r = some (vI v) ∧ Un wMn M M' ∧ PsM M' B n (eb (eb (.ok s) (numS B n false)) fun r => .ok r.1) ∧ (∀ r, eb (.ok s) (numS B n false) = .ok r → v = r.2 ∧ mI M' 12 0 58 = nI r.1.2.1), c_MD_number Ω M B n false _ _ h (fun M' v a b c => ⟨v, rfl, a, b, c⟩), trivial, ?_⟩
  rintro r M1 ⟨v1, rfl, U1, P1, V1⟩
  conv => whnf
  refine And.intro (vp_in_nI (by omega) (by decide)) ?_
  rw [nI_clamp (by omega)]
  have Q1 : Un (w1 92 q) M1 (sI M1 92 0 q v1) := w1_I
  have z1 : mI (sI M1 92 0 q v1) 92 0 q = v1 := mI_eq
  generalize sI M1 92 0 q v1 = Ma at Q1 z1
  have P1 := P1.c1 (by decide) Q1
  have V1 : ∀ r, eb (.ok s) (numS B n false) = .ok r → v1 = r.2 ∧ mI Ma 12 0 58 = nI r.1.2.1 := fun r hr => ⟨(V1 r hr).1, (Q1.I rfl).trans (V1 r hr).2⟩
  conv => whnf
  refine And.intro (vp_in_nI (by omega) (by decide)) ?_
  rw [nI_clamp (by omega), z1]
  conv => whnf
  have c1 := pn_chain (B := B) (n := n) (lo := 1) (hi := 9) (e := .ok s) (fun r hr => (V1 r hr).1)
  refine ⟨fun r M' => r = none ∧ Un wMe Ma M' ∧ PsM M' B n (eb (eb (.ok s) (nuS B n 1 9)) fun r => .ok r.1), c_MD_within Ω Ma B n v1 1 9 _ _ hn P1 (nu_in h V1) (fun M' a b => ⟨rfl, a, by rw [← c1]; exact b⟩), trivial, ?_⟩
  rintro r M2 ⟨rfl, U2, P2⟩
  conv => whnf
  have R1 : ∀ r, eb (.ok s) (nuS B n 1 9) = .ok r → v1 = r.2 := fun r hr => num_nu (fun r hr => (V1 r hr).1) hr
  have X2 : Un (wSq2 p w) M M2 := (U1.mono wSq2_mn).trans ((Q1.mono (by rw [← hqe]; exact wSq2_1 (by decide) (by decide) hns)).trans (U2.mono wSq2_me))
  have L2 : ∀ s', (eb (eb (.ok s) (nuS B n 1 9)) fun r => .ok r.1) = .ok s' → s'.2.2 = none → s.2.2 = none := fun s' hs hlt => by
    obtain ⟨r, g1, g2⟩ := eb_ok hs
    cases g2
    exact (nuS_mo (show nuS B n 1 9 s = .ok r from g1)).2 hlt
  have ch := st_chain (B := B) (n := n) (w := w) (ns := ns) (N := N) (s := s) (T := T)
  generalize he2 : (eb (eb (.ok s) (nuS B n 1 9)) fun r => .ok r.1) = e2 at P2 L2 ch
  have hN2 : ∀ s', e2 = .ok s' → s'.2.2 = none → ∃ N0, NmM M2 p N0 nl nh nw nb ∧ ∀ x so, ¬ so = 203 → ¬ so = 204 → nmF N x so = nmF N0 x so := fun s' hs hlt => by
    obtain ⟨N0, n1, n2⟩ := hNm (L2 s' hs hlt)
    exact ⟨N0, n1.un X2 wSq2_nm, n2⟩
  refine ⟨fun r M' => ∃ v, r = some (vI v) ∧ Un wMe M2 M' ∧ PsM M' B n (eb (eb e2 fun s => knS B n 200 s N) fun r => .ok r.1) ∧ (∀ r, (eb e2 fun s => knS B n 200 s N) = .ok r → r.1.2.2 = none → v = nI (r.2.getD 0)), c_MD_lawNamed Ω M2 B n p nl nh nw nb N false e2 _ hn P2 hp ((X2.I rfl).trans h20) ((X2.I rfl).trans h74) hl hN2 (fun M' v a b c => ⟨v, rfl, a, b, c⟩), trivial, ?_⟩
  rintro r M3 ⟨v2, rfl, U3, P3, V3⟩
  conv => whnf
  refine And.intro (vp_in_nI (by omega) (by decide)) ?_
  rw [nI_clamp (by omega)]
  have Q3 : Un (w1 93 q) M3 (sI M3 93 0 q v2) := w1_I
  have z3 : mI (sI M3 93 0 q v2) 93 0 q = v2 := mI_eq
  generalize sI M3 93 0 q v2 = Mb at Q3 z3
  have P3 := P3.c1 (by decide) Q3
  have X3 : Un (wSq2 p w) M Mb := X2.trans ((U3.mono wSq2_me).trans (Q3.mono (by rw [← hqe]; exact wSq2_1 (by decide) (by decide) hns)))
  conv => whnf
  have L3 : ∀ s', (eb (eb e2 fun s => knS B n 200 s N) fun r => .ok r.1) = .ok s' → s'.2.2 = none → s.2.2 = none := fun s' hs hlt => by
    obtain ⟨r, g1, g2⟩ := eb_ok hs
    obtain ⟨s2, g3, g4⟩ := eb_ok g1
    cases g2
    exact L2 s2 g3 ((knS_mo g4).2 hlt)
  generalize he3 : (eb (eb e2 fun s => knS B n 200 s N) fun r => .ok r.1) = e3 at P3 L3 ch
  have hN3 : ∀ s', e3 = .ok s' → s'.2.2 = none → ∃ N0, NmM Mb p N0 nl nh nw nb ∧ ∀ x so, ¬ so = 203 → ¬ so = 204 → nmF N x so = nmF N0 x so := fun s' hs hlt => by
    obtain ⟨N0, n1, n2⟩ := hNm (L3 s' hs hlt)
    exact ⟨N0, n1.un X3 wSq2_nm, n2⟩
  refine ⟨fun r M' => ∃ v, r = some (vI v) ∧ Un wMe Mb M' ∧ PsM M' B n (eb (eb e3 fun s => knS B n 201 s N) fun r => .ok r.1) ∧ (∀ r, (eb e3 fun s => knS B n 201 s N) = .ok r → r.1.2.2 = none → v = nI (r.2.getD 0)), c_MD_lawNamed Ω Mb B n p nl nh nw nb N true e3 _ hn P3 hp ((X3.I rfl).trans h20) ((X3.I rfl).trans h74) hl hN3 (fun M' v a b c => ⟨v, rfl, a, b, c⟩), trivial, ?_⟩
  rintro r M4 ⟨v3, rfl, U4, P4, V4⟩
  conv => whnf
  refine And.intro (vp_in_nI (by omega) (by decide)) ?_
  rw [nI_clamp (by omega)]
  have Q4 : Un (w1 94 q) M4 (sI M4 94 0 q v3) := w1_I
  have z4 : mI (sI M4 94 0 q v3) 94 0 q = v3 := mI_eq
  generalize sI M4 94 0 q v3 = Mc at Q4 z4
  have P4 := P4.c1 (by decide) Q4
  have X4 : Un (wSq2 p w) M Mc := X3.trans ((U4.mono wSq2_me).trans (Q4.mono (by rw [← hqe]; exact wSq2_1 (by decide) (by decide) hns)))
  conv => whnf
  have L4 : ∀ s', (eb (eb e3 fun s => knS B n 201 s N) fun r => .ok r.1) = .ok s' → s'.2.2 = none → s.2.2 = none := fun s' hs hlt => by
    obtain ⟨r, g1, g2⟩ := eb_ok hs
    obtain ⟨s2, g3, g4⟩ := eb_ok g1
    cases g2
    exact L3 s2 g3 ((knS_mo g4).2 hlt)
  generalize he4 : (eb (eb e3 fun s => knS B n 201 s N) fun r => .ok r.1) = e4 at P4 L4 ch
  refine ⟨fun r M' => ∃ v, r = some (vI v) ∧ Un wMn Mc M' ∧ PsM M' B n (eb (eb e4 (numS B n true)) fun r => .ok r.1) ∧ (∀ r, eb e4 (numS B n true) = .ok r → v = r.2 ∧ mI M' 12 0 58 = nI r.1.2.1), c_MD_number Ω Mc B n true _ _ P4 (fun M' v a b c => ⟨v, rfl, a, b, c⟩), trivial, ?_⟩
  rintro r M5 ⟨v4, rfl, U5, P5, V5⟩
  conv => whnf
  refine And.intro (vp_in_nI (by omega) (by decide)) ?_
  rw [nI_clamp (by omega)]
  have Q5 : Un (w1 95 q) M5 (sI M5 95 0 q v4) := w1_I
  have z5 : mI (sI M5 95 0 q v4) 95 0 q = v4 := mI_eq
  generalize sI M5 95 0 q v4 = Md at Q5 z5
  have P5 := P5.c1 (by decide) Q5
  have V5 : ∀ r, eb e4 (numS B n true) = .ok r → v4 = r.2 ∧ mI Md 12 0 58 = nI r.1.2.1 := fun r hr => ⟨(V5 r hr).1, (Q5.I rfl).trans (V5 r hr).2⟩
  conv => whnf
  refine And.intro (vp_in_nI (by omega) (by decide)) ?_
  rw [nI_clamp (by omega), z5]
  conv => whnf
  have c5 := py_chain (B := B) (n := n) (lim := 30) (e := e4) (by decide) (by decide) (fun r hr => (V5 r hr).1)
  refine ⟨fun r M' => r = none ∧ Un wMe Md M' ∧ PsM M' B n (eb (eb e4 (sdS B n 30)) fun r => .ok r.1), c_MD_within Ω Md B n v4 (-30) 30 _ _ hn P5 (nu_in P4 V5) (fun M' a b => ⟨rfl, a, by rw [← c5]; exact b⟩), trivial, ?_⟩
  rintro r M6 ⟨rfl, U6, P6⟩
  conv => whnf
  have R5 : ∀ r, eb e4 (sdS B n 30) = .ok r → v4 = r.2 := fun r hr => num_sd (by decide) (by decide) (fun r hr => (V5 r hr).1) hr
  refine And.intro (vp_in_nI (by omega) (by decide)) ?_
  rw [nI_clamp (by omega)]
  have Q6 : Un (w1 96 q) M6 (sI M6 96 0 q (-1)) := w1_I
  have z6 : mI (sI M6 96 0 q (-1)) 96 0 q = -1 := mI_eq
  generalize sI M6 96 0 q (-1) = Me at Q6 z6
  have P6 := P6.c1 (by decide) Q6
  have X6 : Un (wSq2 p w) M Me := X4.trans ((U5.mono wSq2_mn).trans ((Q5.mono (by rw [← hqe]; exact wSq2_1 (by decide) (by decide) hns)).trans ((U6.mono wSq2_me).trans (Q6.mono (by rw [← hqe]; exact wSq2_1 (by decide) (by decide) hns)))))
  conv => whnf
  -- what is kept so far
  have A6 : PgX pgf Me p (upT (upT T 92 (10 * w + ns) v1) 95 (10 * w + ns) v4) := ((((((((((hPg.me U1).u1 Q1 z1 (by rw [← hqe]; exact st_ix rfl)).me (U2.mono wMn_me)).me (U3.mono wMn_me)).c1 rfl Q3).me (U4.mono wMn_me)).c1 rfl Q4).me U5).u1 Q5 z5 (by rw [← hqe]; exact st_ix rfl)).me (U6.mono wMn_me)).c1 rfl Q6
  have B6 : s.2.2 = none → PgX nmf Me p (upT (upT (upT T 93 (10 * w + ns) v2) 94 (10 * w + ns) v3) 96 (10 * w + ns) (-1)) := fun hlt => ((((((((((((hPn hlt).mx U1).c1 rfl Q1).mx (U2.mono wMn_me)).mx (U3.mono wMn_me)).u1 Q3 z3 (by rw [← hqe]; exact st_ix rfl)).mx (U4.mono wMn_me)).u1 Q4 z4 (by rw [← hqe]; exact st_ix rfl)).mx U5).c1 rfl Q5).mx (U6.mono wMn_me)).u1 Q6 z6 (by rw [← hqe]; exact st_ix rfl))
  have ch : eb (stpS B n w ns N s T) (fun r => .ok r.1) = eb (eb (eb e4 (sdS B n 30)) fun r => .ok r.1) fun s => eb (onS B n N s) fun r => .ok r.1 := ch
  have fin : ∀ (Mx : Mem) (v5 : Int32), Un (wSq2 p w) Me Mx → PgX pgf Mx p (upT (upT T 92 (10 * w + ns) v1) 95 (10 * w + ns) v4) → (s.2.2 = none → PgX nmf Mx p (upT (upT (upT T 93 (10 * w + ns) v2) 94 (10 * w + ns) v3) 96 (10 * w + ns) v5)) → PsM Mx B n (eb (stpS B n w ns N s T) fun r => .ok r.1) → (∀ s4, (eb (eb e4 (sdS B n 30)) fun r => .ok r.1) = .ok s4 → ∀ r, onS B n N s4 = .ok r → r.1.2.2 = none → v5 = hI r.2) → GoS Ω true m_MD_tellWing K 205 [some (vR (some (12, 0))), some (vI (nI (4 * p + w))), tt, some (vI 1), some (vI (nI q))] [] Mx 0 0 := fun Mx v5 U' A' B' P' V' => by
    refine hK Mx (X6.trans U') P' (fun r hr => ?_)
    obtain ⟨r1, r2, r3, r4, r5, g1, g2, g3, g4, g5, g6, g7⟩ := st_parts hr
    have f2 : e2 = .ok r1.1 := by rw [← he2, eb_k, g1, eb_k]
    have f3 : e3 = .ok r2.1 := by rw [← he3, f2, eb_k, g2, eb_k]
    have f4 : e4 = .ok r3.1 := by rw [← he4, f3, eb_k, g3, eb_k]
    have i1 : v1 = r1.2 := R1 r1 (by rw [eb_k]; exact g1)
    have i4 : v4 = r4.2 := R5 r4 (by rw [f4, eb_k]; exact g4)
    rw [g6]
    refine ⟨?_, fun hlt => ?_⟩
    · rw [← i1, ← i4]
      exact ((A'.up (g := 86) (q := 4 * p + w) (b := w) (x := nI (ns + 1)) rfl)).ct st_pgf
    · have lt := g7 (by rw [g6]; exact hlt)
      have i2 : v2 = nI (r2.2.getD 0) := V3 r2 (by rw [f2, eb_k]; exact g2) lt.1
      have i3 : v3 = nI (r3.2.getD 0) := V4 r3 (by rw [f3, eb_k]; exact g3) lt.2.1
      have i5 : v5 = hI r5.2 := V' r4.1 (by rw [f4, eb_k, g4, eb_k]) r5 g5 lt.2.2
      have ls : s.2.2 = none := (nuS_mo g1).2 ((knS_mo g2).2 lt.1)
      rw [← i2, ← i3, ← i5]
      exact ((B' ls).ne rfl).ct st_nmf
  have L5 : ∀ s', (eb (eb e4 (sdS B n 30)) fun r => .ok r.1) = .ok s' → s'.2.2 = none → s.2.2 = none := fun s' hs hlt => by
    obtain ⟨r, g1, g2⟩ := eb_ok hs
    obtain ⟨s2, g3, g4⟩ := eb_ok g1
    cases g2
    exact L4 s2 g3 ((sdS_mo g4).2 hlt)
  generalize (eb (eb e4 (sdS B n 30)) fun r => .ok r.1) = e5 at P6 ch fin L5
  refine cl_use (fun K h' => c_MD_is Ω Me B n 210 29 _ K rfl (by decide) rfl P6 h') trivial ?_
  conv => whnf
  refine br_bz (fun c => ?_) (fun c => ?_)
  · refine fin Me (-1) Un.rfl A6 B6 ?_ (fun s4 h4 r hr _ => ?_)
    · rw [ch]
      cases e5 with
      | error f => exact P6
      | ok s4 =>
        have c : ¬ tkK B n s4.1 = 210 := of_decide_eq_false c
        rw [eb_k]
        unfold onS
        rw [if_neg c, eb_k]
        exact P6
    · rw [h4] at c
      have c : ¬ tkK B n s4.1 = 210 := of_decide_eq_false c
      unfold onS at hr
      rw [if_neg c] at hr
      cases hr
      rfl
  · cases e5 with
    | error f => cases c
    | ok s4 =>
      have c : tkK B n s4.1 = 210 := of_decide_eq_true c
      conv => whnf
      refine ⟨fun r M' => r = none ∧ Un wMe Me M' ∧ PsM M' B n (tkS B n 210 s4), c_MD_goesOn Ω Me B n s4 _ (by omega) P6 (fun M' a b => ⟨rfl, a, by unfold tkS; rw [if_pos c]; exact b⟩), trivial, ?_⟩
      rintro r M7 ⟨rfl, U7, P7⟩
      conv => whnf
      have X7 : Un (wSq2 p w) M M7 := X6.trans (U7.mono wSq2_me)
      have hN7 : ∀ s', tkS B n 210 s4 = .ok s' → s'.2.2 = none → ∃ N0, NmM M7 p N0 nl nh nw nb ∧ ∀ x so, ¬ so = 203 → ¬ so = 204 → nmF N x so = nmF N0 x so := fun s' hs hlt => by
        obtain ⟨N0, n1, n2⟩ := hNm (L5 s4 rfl ((tkS_mo hs).1.2 hlt))
        exact ⟨N0, n1.un X7 wSq2_nm, n2⟩
      refine ⟨fun r M' => ∃ v, r = some (vI v) ∧ Un wMe M7 M' ∧ PsM M' B n (eb (eb (tkS B n 210 s4) fun s => knS B n 202 s N) fun r => .ok r.1) ∧ (∀ r, (eb (tkS B n 210 s4) fun s => knS B n 202 s N) = .ok r → r.1.2.2 = none → v = hI r.2), c_MD_hingeNamed Ω M7 B n p nl nh nw nb N _ _ hn P7 hp ((X7.I rfl).trans h20) ((X7.I rfl).trans h80) hh hN7 (fun M' v a b c => ⟨v, rfl, a, b, c⟩), trivial, ?_⟩
      rintro r M8 ⟨v5, rfl, U8, P8, V8⟩
      conv => whnf
      refine And.intro (vp_in_nI (by omega) (by decide)) ?_
      rw [nI_clamp (by omega)]
      have Q8 : Un (w1 96 q) M8 (sI M8 96 0 q v5) := w1_I
      have z8 : mI (sI M8 96 0 q v5) 96 0 q = v5 := mI_eq
      generalize sI M8 96 0 q v5 = Mf at Q8 z8
      have P8 := P8.c1 (by decide) Q8
      conv => whnf
      refine fin Mf v5 ((U7.mono wSq2_me).trans ((U8.mono wSq2_me).trans (Q8.mono (by rw [← hqe]; exact wSq2_1 (by decide) (by decide) hns)))) (((A6.me (U7.mono wMn_me)).me (U8.mono wMn_me)).c1 rfl Q8) (fun hlt => ?_) ?_ (fun s4' h4 r hr hlt => ?_)
      · have := (((B6 hlt).mx (U7.mono wMn_me)).mx (U8.mono wMn_me)).u1 Q8 z8 (by rw [← hqe]; exact st_ix (w := w) (ns := ns) rfl)
        rw [upT_2] at this
        exact this
      · rw [ch, eb_k]
        unfold onS
        rw [if_pos c]
        exact P8
      · cases h4
        unfold onS at hr
        rw [if_pos c] at hr
        exact V8 r hr hlt
