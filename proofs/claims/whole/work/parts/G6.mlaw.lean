/-! READ: the model's reader: a law's points -/
def wLk (p l k _i s : Nat) : Bool := (Nat.beq k 77 && Nat.beq s (8 * p + l)) || ((Nat.beq k 78 || Nat.beq k 79) && Nat.beq (s / 8) (8 * p + l))
def wLq (p l k i s : Nat) : Bool := wMn k i s || wLk p l k i s
theorem wLq_mn {p l : Nat} : ∀ k i s, wLq p l k i s = false → wMn k i s = false := fun k i s q => (Bool.or_eq_false_iff.mp q).1
theorem wLq_lk {p l : Nat} : ∀ k i s, wLq p l k i s = false → wLk p l k i s = false := fun k i s q => (Bool.or_eq_false_iff.mp q).2
theorem wLq_me {p l : Nat} : ∀ k i s, wLq p l k i s = false → wMe k i s = false := fun k i s q => wMn_me k i s (wLq_mn k i s q)
theorem wLk_12 {p l i s : Nat} : wLk p l 12 i s = false := rfl
theorem PsM.lk {M M' : Mem} {B : Nat → Nat} {n p l : Nat} {e : Except Fa Ps} (h : PsM M B n e) (hU : Un (wLk p l) M M') : PsM M' B n e := h.un hU (fun s _ _ _ => rfl) (fun k s h1 h2 => by simp [wLk, nb_d]; omega)
theorem wLk_77 {p l : Nat} : wLk p l 77 0 (8 * p + l) = true := by simp [wLk, nb_d]
theorem wLk_78 {p l j : Nat} (hj : j < 8) : wLk p l 78 0 (8 * (8 * p + l) + j) = true := by simp [wLk, nb_d]; omega
theorem wLk_79 {p l j : Nat} (hj : j < 8) : wLk p l 79 0 (8 * (8 * p + l) + j) = true := by simp [wLk, nb_d]; omega
/-- a number with its sign, in bounds when nothing late stands -/
theorem sdS_bd {B : Nat → Nat} {n : Nat} {lim : Int32} {s : Ps} {r : Ps × Int32} (h3 : 0 ≤ lim.toInt) (h4 : lim.toInt ≤ 9999) (h : sdS B n lim s = .ok r) (hl : r.1.2.2 = none) : -lim.toInt ≤ r.2.toInt ∧ r.2.toInt ≤ lim.toInt := by
  rw [sd_num h3 h4] at h
  obtain ⟨q, h1, h2⟩ := eb_ok h
  cases h2
  cases hb : (decide (q.2 < -lim) || decide (lim < q.2)) with
  | true =>
    rw [hb] at hl
    cases hl
  | false =>
    rw [Bool.or_eq_false_iff, decide_eq_false_iff_not, decide_eq_false_iff_not, Int32.lt_iff_toInt_lt, Int32.lt_iff_toInt_lt] at hb
    have e1 : (-lim).toInt = -lim.toInt := by
      rw [Int32.toInt_neg]
      exact Int.bmod_eq_of_le (by omega) (by omega)
    rw [e1] at hb
    show -lim.toInt ≤ q.2.toInt ∧ q.2.toInt ≤ lim.toInt
    omega
theorem lw_ix {p l j : Nat} : 8 * (8 * p + l) + j = szf 78 * p + (8 * l + j) := by
  show _ = 64 * p + (8 * l + j)
  omega
theorem lw_iy {p l j : Nat} : 8 * (8 * p + l) + j = szf 79 * p + (8 * l + j) := by
  show _ = 64 * p + (8 * l + j)
  omega
theorem num_sd {B : Nat → Nat} {n : Nat} {lim : Int32} {e : Except Fa Ps} {v : Int32} (h3 : 0 ≤ lim.toInt) (h4 : lim.toInt ≤ 9999) (V : ∀ r, eb e (numS B n true) = .ok r → v = r.2) {r : Ps × Int32} (h : eb e (sdS B n lim) = .ok r) : v = r.2 := by
  obtain ⟨s, rfl, h2⟩ := eb_ok h
  rw [sd_num h3 h4] at h2
  obtain ⟨q, h5, h6⟩ := eb_ok h2
  cases h6
  exact V q (by rw [eb_k]; exact h5)
theorem num_nu {B : Nat → Nat} {n : Nat} {lo hi : Int32} {e : Except Fa Ps} {v : Int32} (V : ∀ r, eb e (numS B n false) = .ok r → v = r.2) {r : Ps × Int32} (h : eb e (nuS B n lo hi) = .ok r) : v = r.2 := by
  obtain ⟨s, rfl, h2⟩ := eb_ok h
  rw [nu_num] at h2
  obtain ⟨q, h5, h6⟩ := eb_ok h2
  cases h6
  exact V q (by rw [eb_k]; exact h5)
/-- what `within` wants behind `number` -/
theorem nu_in {M M1 : Mem} {B : Nat → Nat} {n : Nat} {z : Bool} {e : Except Fa Ps} {v : Int32} (h : PsM M B n e) (V : ∀ r, eb e (numS B n z) = .ok r → v = r.2 ∧ mI M1 12 0 58 = nI r.1.2.1) : ∀ s, (eb (eb e (numS B n z)) fun r => .ok r.1) = .ok s → 1 ≤ s.1 ∧ (∀ q, s.2.2 = some q → q.2 < s.2.1) ∧ mI M1 12 0 58 = nI s.2.1 := fun s hs => by
  obtain ⟨r, q1, q2⟩ := eb_ok hs
  cases q2
  exact ⟨(nu_hs h r q1).1, (nu_hs h r q1).2, (V r q1).2⟩
theorem pt_e5 {B : Nat → Nat} {n k np : Nat} {s : Ps} {T : Tx} : eb (eb (eb (eb (.ok s) (sdS B n 90)) fun r => .ok (blS 5 (decide (0 < np) && decide (r.2 ≤ T 78 (8 * k + (np - 1)))) r.1)) (sdS B n 999)) (fun r => .ok r.1) = eb (ptS B n k np s T) fun r => .ok r.1 := by
  unfold ptS
  rw [eb_k]
  cases sdS B n 90 s with
  | error f => rfl
  | ok r =>
    simp only [eb_k]
    cases sdS B n 999 (blS 5 (decide (0 < np) && decide (r.2 ≤ T 78 (8 * k + (np - 1)))) r.1) with
    | error f => rfl
    | ok q => rfl
set_option maxHeartbeats 4000000 in
theorem ml_out {Ω : Om} {K : Ka} {B : Nat → Nat} {n : Nat} {e : Except Fa Ps} {M' : Mem} {a1 a2 a4 a5 a6 : Option Vl} {m : Int32} (hm : m = 0 ∨ ∃ f, e = .error f) (P : PsM M' B n e)
    (hN : GoS Ω true m_MD_tellLaw K 248 [some (vR (some (12, 0))), a1, a2, some (vI m), a4, a5, a6] [] M' 0 0) : GoS Ω true m_MD_tellLaw K 61 [some (vR (some (12, 0))), a1, a2, some (vI m), a4, a5, a6] [] M' 0 0 := by
  refine go_wp ok_MD_tellLaw [248] 250 _ _ _ _ _ _ ?_
  refine And.intro (fun _ => hN) (fun q => ?_)
  rcases hm with c | ⟨f, rfl⟩
  · exact absurd c q
  · rcases rm_fault P with ⟨f, e1, e2, e3⟩ | ⟨s', e1, e2, e3⟩
    · exact And.intro (fun _ => hN) (fun z => absurd z e2)
    · cases e1
def pn (M : Mem) (p l np : Nat) (x : Int32) : Mem := sI M 79 0 (8 * (8 * p + l) + np) x
set_option maxHeartbeats 8000000 in
theorem ml_loop {Ω : Om} {K : Ka} {M0 : Mem} {B : Nat → Nat} {n p l tt : Nat} (hn : n ≤ 2000) (hp : p < 4) (hl : l < 8) {tl : Except Fa (Ps × Tx)}
    (hN : ∀ M' a3 a4 a5 a6, Un (wLq p l) M0 M' → PsM M' B n (eb tl fun r => .ok r.1) → (∀ r, tl = .ok r → PgX pgf M' p r.2) → GoS Ω true m_MD_tellLaw K 248 [some (vR (some (12, 0))), some (vI (nI (8 * p + l))), some (vI (nI tt)), a3, a4, a5, a6] [] M' 0 0)
    (hE : ∀ M' f, Un (wLq p l) M0 M' → PsM M' B n (.error f) → tl = .error f → K none M') :
    ∀ f np s T M a4 a5 a6, f + 1 + np = 9 → Un (wLq p l) M0 M → PsM M B n (.ok s) → PgX pgf M p T → mI M 77 0 (8 * p + l) = nI np → (0 < np → s.2.2 = none → -90 ≤ (T 78 (8 * l + (np - 1))).toInt ∧ (T 78 (8 * l + (np - 1))).toInt ≤ 90) → ptM B n l (f + 1) np s T = tl →
      GoS Ω true m_MD_tellLaw K 61 [some (vR (some (12, 0))), some (vI (nI (8 * p + l))), some (vI (nI tt)), some (vI 1), a4, a5, a6] [] M 0 0 := by
  intro f
  induction f with
  | zero =>
    intro np s T M a4 a5 a6 hf hU h hP h77 hprv htl
    have h8 : np = 8 := by omega
    rw [ptM, if_pos h8] at htl
    refine go_wp ok_MD_tellLaw [61, 248] 250 _ _ _ _ _ _ ?_
    refine And.intro (fun q => absurd q (by decide)) (fun _ => ?_)
    refine And.intro (fun q => absurd h.2.2.2.1 q) (fun _ => ?_)
    conv => whnf
    refine And.intro (vp_in_nI (by omega) (by decide)) ?_
    rw [nI_clamp (by omega), h77]
    refine And.intro (fun q => absurd (show nI np = nI 8 by rw [h8]) q) (fun _ => ?_)
    conv => whnf
    refine ⟨fun r M' => r = none ∧ Un wMe M M' ∧ PsM M' B n (.error (2, s.1)), c_MD_fail Ω M B n 2 (.ok s) _ (Or.inr rfl) h (fun M' a b => ⟨rfl, a, b⟩), trivial, ?_⟩
    rintro r M1 ⟨rfl, U1, P1⟩
    conv => whnf
    rcases rm_fault P1 with ⟨f, e1, e2, e3⟩ | ⟨s', e1, e2, e3⟩
    · refine And.intro (fun q => absurd q e3) (fun _ => ?_)
      exact hE M1 _ (hU.trans (U1.mono wLq_me)) P1 htl.symm
    · cases e1
  | succ f ih =>
    intro np s T M a4 a5 a6 hf hU h hP h77 hprv htl
    have h8 : ¬ np = 8 := by omega
    have hnp : np < 8 := by omega
    rw [ptM, if_neg h8] at htl
    have h13 := h.2.2.2.1
    have ix : 8 * (8 * p + l) + np < 320 := by omega
    refine go_wp ok_MD_tellLaw [61, 158, 234, 248] 250 _ _ _ _ _ _ ?_
    refine And.intro (fun q => absurd q (by decide)) (fun _ => ?_)
    refine And.intro (fun q => absurd h13 q) (fun _ => ?_)
    conv => whnf
    refine And.intro (vp_in_nI (by omega) (by decide)) ?_
    rw [nI_clamp (by omega), h77]
    refine And.intro (fun _ => ?_) (fun q => absurd ((nI_eq (by omega) (by decide)).mp (show nI np = nI 8 from q)) h8)
    conv => whnf
    refine And.intro (fun _ => ?_) (fun q => absurd (show mI M 12 0 13 ≤ 0 by rw [h13]; decide) q)
    conv => whnf
    refine And.intro (vp_in_nI (by omega) (by decide)) ?_
    rw [nI_clamp (by omega), h77, show (8 : Int32) = nI 8 from rfl, pk_mul]
    conv => whnf
    rw [nI_add]
    refine ⟨fun r M' => ∃ v, r = some (vI v) ∧ Un wMn M M' ∧ PsM M' B n (eb (eb (.ok s) (numS B n true)) fun r => .ok r.1) ∧ (∀ r, eb (.ok s) (numS B n true) = .ok r → v = r.2 ∧ mI M' 12 0 58 = nI r.1.2.1), c_MD_number Ω M B n true _ _ h (fun M' v a b c => ⟨v, rfl, a, b, c⟩), trivial, ?_⟩
    rintro r M1 ⟨v, rfl, U1, P1, V1⟩
    conv => whnf
    have h77a : mI M1 77 0 (8 * p + l) = nI np := (U1.I rfl).trans h77
    have hP1 : PgX pgf M1 p T := hP.me U1
    have rest : GoS Ω true m_MD_tellLaw K 158 [some (vR (some (12, 0))), some (vI (nI (8 * p + l))), some (vI (nI tt)), some (vI 1), some (vI (nI (8 * (8 * p + l) + np))), some (vI v), a6] [vI (loB np (T 78 (8 * l + (np - 1)))), vI v, vR (some (12, 0))] M1 0 0 := by
      refine go_wp ok_MD_tellLaw [61, 234, 248] 250 _ _ _ _ _ _ ?_
      conv => whnf
      have c1 := px_chain (B := B) (n := n) (np := np) (e := .ok s) (prev := T 78 (8 * l + (np - 1))) (fun r hr => (V1 r hr).1) (fun r hr h0 hlt => hprv h0 ((numS_ok (show numS B n true s = .ok r from hr)).1.symm.trans hlt))
      refine ⟨fun r M' => r = none ∧ Un wMe M1 M' ∧ PsM M' B n (eb (eb (.ok s) (sdS B n 90)) fun r => .ok (blS 5 (decide (0 < np) && decide (r.2 ≤ T 78 (8 * l + (np - 1)))) r.1)), c_MD_within Ω M1 B n v (loB np (T 78 (8 * l + (np - 1)))) 90 _ _ hn P1 (nu_in h V1) (fun M' a b => ⟨rfl, a, by rw [← c1]; exact b⟩), trivial, ?_⟩
      rintro r M2 ⟨rfl, U2, P2⟩
      conv => whnf
      refine And.intro (vp_in_nI (by omega) (by decide)) ?_
      rw [nI_clamp (by omega)]
      have hP2 := (hP1.me (U2.mono wMn_me)).up (g := 78) (b := 8 * l + np) (x := v) lw_ix
      have W2 : Un (wLk p l) M2 (sI M2 78 0 (8 * (8 * p + l) + np) v) := Un.rfl.pI (wLk_78 hnp)
      have h77b : mI (sI M2 78 0 (8 * (8 * p + l) + np) v) 77 0 (8 * p + l) = nI np := (mI_ne rfl).trans ((U2.I rfl).trans h77a)
      have P2 := P2.lk W2
      conv => whnf
      generalize hMa : sI M2 78 0 (8 * (8 * p + l) + np) v = Ma at hP2 W2 h77b P2
      have V2 : ∀ r, eb (.ok s) (sdS B n 90) = .ok r → v = r.2 := fun r hr => num_sd (by decide) (by decide) (fun r hr => (V1 r hr).1) hr
      generalize he2 : (eb (eb (.ok s) (sdS B n 90)) fun r => .ok (blS 5 (decide (0 < np) && decide (r.2 ≤ T 78 (8 * l + (np - 1)))) r.1)) = e2 at P2
      refine ⟨fun r M' => ∃ v, r = some (vI v) ∧ Un wMn Ma M' ∧ PsM M' B n (eb (eb e2 (numS B n true)) fun r => .ok r.1) ∧ (∀ r, eb e2 (numS B n true) = .ok r → v = r.2 ∧ mI M' 12 0 58 = nI r.1.2.1), c_MD_number Ω Ma B n true _ _ P2 (fun M' v a b c => ⟨v, rfl, a, b, c⟩), trivial, ?_⟩
      rintro r M3 ⟨y, rfl, U3, P3, V3⟩
      conv => whnf
      have c2 := py_chain (B := B) (n := n) (lim := 999) (e := e2) (by decide) (by decide) (fun r hr => (V3 r hr).1)
      refine ⟨fun r M' => r = none ∧ Un wMe M3 M' ∧ PsM M' B n (eb (eb e2 (sdS B n 999)) fun r => .ok r.1), c_MD_within Ω M3 B n y (-999) 999 _ _ hn P3 (nu_in P2 V3) (fun M' a b => ⟨rfl, a, by rw [← c2]; exact b⟩), trivial, ?_⟩
      rintro r M4 ⟨rfl, U4, P4⟩
      conv => whnf
      refine And.intro (vp_in_nI (by omega) (by decide)) ?_
      rw [nI_clamp (by omega)]
      have hP4 := ((hP2.me U3).me (U4.mono wMn_me)).up (g := 79) (b := 8 * l + np) (x := y) lw_iy
      have W4 : Un (wLk p l) M4 (sI M4 79 0 (8 * (8 * p + l) + np) y) := Un.rfl.pI (wLk_79 hnp)
      have h77c : mI (sI M4 79 0 (8 * (8 * p + l) + np) y) 77 0 (8 * p + l) = nI np := (mI_ne rfl).trans ((U4.I rfl).trans ((U3.I rfl).trans h77b))
      have P4 := P4.lk W4
      conv => whnf
      generalize hMb : sI M4 79 0 (8 * (8 * p + l) + np) y = Mb at hP4 W4 h77c P4
      refine And.intro (vp_in_nI (by omega) (by decide)) ?_
      rw [nI_clamp (by omega), h77c]
      conv => whnf
      rw [nI_1]
      refine And.intro (vp_in_nI (by omega) (by decide)) ?_
      rw [nI_clamp (by omega)]
      have hP5 := hP4.up (g := 77) (q := 8 * p + l) (b := l) (x := nI (np + 1)) rfl
      have W5 : Un (wLk p l) Mb (sI Mb 77 0 (8 * p + l) (nI (np + 1))) := Un.rfl.pI wLk_77
      have c77 : mI (sI Mb 77 0 (8 * p + l) (nI (np + 1))) 77 0 (8 * p + l) = nI (np + 1) := mI_eq
      have P5 := P4.lk W5
      conv => whnf
      generalize hMc : sI Mb 77 0 (8 * p + l) (nI (np + 1)) = Mc at hP5 W5 c77 P5
      have U5 : Un (wLq p l) M0 Mc := hU.trans ((U1.mono wLq_mn).trans ((U2.mono wLq_me).trans ((W2.mono wLq_lk).trans ((U3.mono wLq_mn).trans ((U4.mono wLq_me).trans ((W4.mono wLq_lk).trans (W5.mono wLq_lk)))))))
      have G5 : ∀ r, ptS B n l np s T = .ok r → PgX pgf Mc p r.2 ∧ (r.1.2.2 = none → -90 ≤ (r.2 78 (8 * l + np)).toInt ∧ (r.2 78 (8 * l + np)).toInt ≤ 90) := fun r hr => by
        obtain ⟨r1, g1, g2⟩ := eb_ok hr
        obtain ⟨r2, g3, g4⟩ := eb_ok g2
        have ev := V2 r1 g1
        have ey : y = r2.2 := num_sd (e := e2) (lim := 999) (by decide) (by decide) (fun r hr => (V3 r hr).1) (by rw [← he2, eb_k, g1, eb_k, eb_k]; exact g3)
        cases g4
        refine ⟨by rw [← ev, ← ey]; exact hP5, fun hlt => ?_⟩
        have hb := sdS_bd (lim := 90) (by decide) (by decide) g1 (bl_none ((sdS_mo g3).2 hlt)).2
        show -90 ≤ (upT (upT (upT T 78 (8 * l + np) r1.2) 79 (8 * l + np) r2.2) 77 l (nI (np + 1)) 78 (8 * l + np)).toInt ∧ (upT (upT (upT T 78 (8 * l + np) r1.2) 79 (8 * l + np) r2.2) 77 l (nI (np + 1)) 78 (8 * l + np)).toInt ≤ 90
        rw [upT_nf rfl, upT_nf rfl, upT_eq]
        exact hb
      have P5 : PsM Mc B n (eb (ptS B n l np s T) fun r => .ok r.1) := by
        rw [← pt_e5, he2]
        exact P5
      generalize ptS B n l np s T = X at P5 G5 htl
      have one : (∀ r, X = .ok r → tkK B n r.1.1 = 44 ∨ np + 1 < 2) → GoS Ω true m_MD_tellLaw K 234 [some (vR (some (12, 0))), some (vI (nI (8 * p + l))), some (vI (nI tt)), some (vI 1), some (vI (nI (8 * (8 * p + l) + np))), some (vI v), some (vI y)] [vI 1] Mc 0 0 := fun hX => by
        refine go_wp ok_MD_tellLaw [61, 248] 250 _ _ _ _ _ _ ?_
        refine And.intro (fun q => absurd q (by decide)) (fun _ => ?_)
        conv => whnf
        refine ⟨fun r M' => r = none ∧ Un wMe Mc M' ∧ PsM M' B n (eb (eb X fun r => .ok r.1) (tkS B n 44)), c_MD_must Ω Mc B n 44 16 _ _ rfl (by decide) rfl (by decide) P5 (fun M' a b => ⟨rfl, a, b⟩), trivial, ?_⟩
        rintro r M6 ⟨rfl, U6, P6⟩
        conv => whnf
        cases X with
        | error f0 =>
          exact ml_out (Or.inr ⟨f0, rfl⟩) P6 (hN M6 _ _ _ _ (U5.trans (U6.mono wLq_me)) (by rw [← htl]; exact P6) (fun r hr => by rw [← htl] at hr; cases hr))
        | ok r =>
          simp only [eb_k] at P6 htl
          rw [if_pos (hX r rfl)] at htl
          cases ht : tkS B n 44 r.1 with
          | error f0 =>
            rw [ht] at P6 htl
            exact ml_out (Or.inr ⟨f0, rfl⟩) P6 (hN M6 _ _ _ _ (U5.trans (U6.mono wLq_me)) (by rw [← htl]; exact P6) (fun r hr => by rw [← htl] at hr; cases hr))
          | ok s' =>
            rw [ht] at P6 htl
            exact ih (np + 1) s' r.2 M6 _ _ _ (by omega) (U5.trans (U6.mono wLq_me)) P6 ((G5 r rfl).1.me (U6.mono wMn_me)) ((U6.I rfl).trans c77) (fun _ hlt => (G5 r rfl).2 ((tkS_mo ht).1.2 hlt)) htl
      have zero : (∀ r, X = .ok r → ¬ (tkK B n r.1.1 = 44 ∨ np + 1 < 2)) → GoS Ω true m_MD_tellLaw K 234 [some (vR (some (12, 0))), some (vI (nI (8 * p + l))), some (vI (nI tt)), some (vI 1), some (vI (nI (8 * (8 * p + l) + np))), some (vI v), some (vI y)] [vI 0] Mc 0 0 := fun hX => by
        refine go_wp ok_MD_tellLaw [61, 248] 250 _ _ _ _ _ _ ?_
        refine And.intro (fun _ => ?_) (fun q => absurd rfl q)
        conv => whnf
        have htl2 : X = tl := by
          cases X with
          | error f0 => exact htl
          | ok r =>
            rw [eb_k, if_neg (hX r rfl)] at htl
            exact htl
        rw [htl2] at P5 G5
        exact ml_out (Or.inl rfl) P5 (hN Mc _ _ _ _ U5 P5 (fun r hr => (G5 r hr).1))
      refine cl_use (fun K h' => c_MD_is Ω Mc B n 44 16 _ K rfl (by decide) rfl P5 h') trivial ?_
      conv => whnf
      refine br_bn (fun c => ?_) (fun c => ?_)
      · conv => whnf
        refine one (fun r hr => ?_)
        rw [hr] at c
        exact Or.inl (of_decide_eq_true c)
      · conv => whnf
        refine And.intro (vp_in_nI (by omega) (by decide)) ?_
        rw [nI_clamp (by omega), c77]
        refine And.intro (fun q => ?_) (fun q => ?_)
        · have q : nI 2 ≤ nI (np + 1) := q
          rw [nI_leI (by omega) (by omega)] at q
          conv => whnf
          refine zero (fun r hr z => ?_)
          rw [hr] at c
          rcases z with z | z
          · exact of_decide_eq_false c z
          · omega
        · have q : ¬ nI 2 ≤ nI (np + 1) := q
          rw [nI_leI (by omega) (by omega)] at q
          conv => whnf
          exact one (fun r hr => Or.inr (by omega))
    refine And.intro (vp_in_nI (by omega) (by decide)) ?_
    rw [nI_clamp (by omega), h77a]
    refine And.intro (fun q => ?_) (fun q => ?_)
    · have q : nI np ≤ nI 0 := q
      rw [nI_leI (by omega) (by omega)] at q
      conv => whnf
      unfold loB at rest
      rw [if_neg (fun c => by have := c.1; omega)] at rest
      exact rest
    · have q : ¬ nI np ≤ nI 0 := q
      rw [nI_leI (by omega) (by omega)] at q
      have hx : mI M1 78 0 (8 * (8 * p + l) + np - 1) = T 78 (8 * l + (np - 1)) := by
        rw [show 8 * (8 * p + l) + np - 1 = szf 78 * p + (8 * l + (np - 1)) by show _ = 64 * p + _; omega]
        exact hP1 78 _ rfl (by show _ < 64; omega)
      conv => whnf
      rw [show nI (8 * (8 * p + l) + np) - 1 = nI (8 * (8 * p + l) + np - 1) from pk_sub (b := 1) (by omega)]
      refine And.intro (vp_in_nI (by omega) (by decide)) ?_
      rw [nI_clamp (by omega), hx]
      unfold loB at rest
      refine And.intro (fun c => ?_) (fun c => ?_)
      · conv => whnf
        rw [if_neg (fun d => d.2 c)] at rest
        exact rest
      · conv => whnf
        rw [show nI (8 * (8 * p + l) + np) - 1 = nI (8 * (8 * p + l) + np - 1) from pk_sub (b := 1) (by omega)]
        refine And.intro (vp_in_nI (by omega) (by decide)) ?_
        rw [nI_clamp (by omega), hx]
        conv => whnf
        rw [if_pos ⟨by omega, c⟩] at rest
        exact rest
