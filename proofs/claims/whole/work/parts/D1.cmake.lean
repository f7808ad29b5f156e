/-! READ: the class's reader: what more is told of a wing -/
def wMa (q k i s : Nat) : Bool := Nat.beq i q && (Nat.beq k 62 || (Nat.beq k 10 && ((Nat.ble 6 s && Nat.ble s 8) || Nat.beq s 10)))
def wMq (q k i s : Nat) : Bool := wRe k i s || wMa q k i s
theorem wMq_re {q : Nat} : ∀ k i s, wMq q k i s = false → wRe k i s = false := fun k i s h => (Bool.or_eq_false_iff.mp h).1
theorem wMq_ma {q : Nat} : ∀ k i s, wMq q k i s = false → wMa q k i s = false := fun k i s h => (Bool.or_eq_false_iff.mp h).2
theorem PsC.ma {M M' : Mem} {B : Nat → Nat} {n q : Nat} {e : Except Fa Ps} (hP : PsC M B n e) (hU : Un (wMa q) M M') : PsC M' B n e := hP.un hU (fun s _ => by simp [wMa, nb_d, nl_d]) (fun _ => by simp [wMa, nb_d, nl_d]) (fun k s hk => by simp [wMa, nb_d, nl_d]; omega)
def WmP (M : Mem) (q w : Nat) (T : Tx) : Prop := mI M 10 q 6 = T 87 w ∧ mI M 10 q 7 = T 88 w ∧ mI M 10 q 8 = T 89 w ∧ mI M 10 q 10 = T 90 w ∧ (T 90 w = 1 → ∀ j, j < 4 → mI M 62 q j = T 91 (4 * w + j))
theorem WmP.re {M M' : Mem} {q w : Nat} {T : Tx} (h : WmP M q w T) (hU : Un wRe M M') : WmP M' q w T := ⟨(hU.I rfl).trans h.1, (hU.I rfl).trans h.2.1, (hU.I rfl).trans h.2.2.1, (hU.I rfl).trans h.2.2.2.1, fun e j hj => (hU.I rfl).trans (h.2.2.2.2 e j hj)⟩
theorem msS_T {B : Nat → Nat} {n w : Nat} : ∀ {f i : Nat} {s : Ps} {T : Tx} {r : Ps × Tx}, msS B n w f i s T = .ok r → ∀ g a, (g = 91 → a < 4 * w + i ∨ 4 * w + i + f ≤ a) → r.2 g a = T g a := by
  intro f
  induction f with
  | zero => intro i s T r h; cases h; intro _ _ _; rfl
  | succ f ih =>
    intro i s T r h g a hg
    rw [msS] at h
    obtain ⟨r1, h1, h2⟩ := eb_ok h
    rw [ih h2 g a (fun e => by have := hg e; omega)]
    unfold upT
    exact if_neg (fun q => by have := hg q.1; omega)
def wMs (q k i s : Nat) : Bool := wRe k i s || (Nat.beq i q && Nat.beq k 62)
theorem wMs_re {q : Nat} : ∀ k i s, wMs q k i s = false → wRe k i s = false := fun k i s h => (Bool.or_eq_false_iff.mp h).1
theorem wMs_q {q : Nat} : ∀ k i s, wMq q k i s = false → wMs q k i s = false := fun k i s h => by
  have h1 := wMq_re k i s h
  have h2 := wMq_ma k i s h
  unfold wMs
  rw [h1]
  simp [wMa, nb_d, nl_d] at h2 ⊢
  omega
set_option maxHeartbeats 2000000 in
theorem ms_loop {Ω : Om} {K : Ka} {M0 : Mem} {B : Nat → Nat} {n q w so : Nat} {tl : Except Fa (Ps × Tx)}
    (hN : ∀ M' r3, Un (wMs q) M0 M' → PsC M' B n (eb tl fun r => .ok r.1) → (∀ r, tl = .ok r → ∀ j, j < 4 → mI M' 62 q j = r.2 91 (4 * w + j)) → GoS Ω true m_Reader_tellMake K 107 [some (vR (some (4, 0))), some (vR (some (10, q))), some (vI (nI so)), r3] [] M' 0 0) :
    ∀ (f i : Nat) (y : Except Fa (Ps × Tx)) (M1 : Mem), i + f = 4 → Un (wMs q) M0 M1 → PsC M1 B n (eb y fun r => .ok r.1) → (∀ r, y = .ok r → ∀ j, j < i → mI M1 62 q j = r.2 91 (4 * w + j)) → (eb y fun r => msS B n w f i r.1 r.2) = tl →
      GoS Ω true m_Reader_tellMake K 78 [some (vR (some (4, 0))), some (vR (some (10, q))), some (vI (nI so)), some (vI (nI i))] [] M1 0 0 := by
  intro f
  induction f with
  | zero =>
    intro i y M1 hf hU h hL he
    have hf : i = 4 := hf
    subst hf
    refine go_wp ok_Reader_tellMake [107] 250 _ _ _ _ _ _ ?_
    refine And.intro (fun _ => ?_) (fun z => absurd (Int32.le_refl _) z)
    have e2 : y = tl := by
      rw [← he]
      cases y with
      | error e => rw [eb_x]
      | ok r => rw [eb_k]; rfl
    subst e2
    exact hN M1 _ hU h hL
  | succ f ih =>
    intro i y M1 hf hU h hL he
    refine go_wp ok_Reader_tellMake [78] 250 _ _ _ _ _ _ ?_
    refine And.intro (fun z => absurd z (nI_ge (b := 4) (by omega) (by decide))) (fun _ => ?_)
    conv => whnf
    refine ⟨fun r M' => ∃ v, r = some (vI v) ∧ Un wRe M1 M' ∧ PsC M' B n (eb (eb (eb y fun r => .ok r.1) (nuS B n 1 2000)) fun r => .ok r.1) ∧ ∀ r, eb (eb y fun r => .ok r.1) (nuS B n 1 2000) = .ok r → v = r.2, c_number Ω M1 B n 1 2000 _ _ h (fun M' v a b c => ⟨v, rfl, a, b, c⟩), trivial, ?_⟩
    rintro r M2 ⟨v, rfl, U2, P2, V2⟩
    conv => whnf
    refine And.intro (vp_in_nI (by omega) (by decide)) ?_
    rw [nI_clamp (by omega)]
    conv => whnf
    rw [nI_1]
    have w62 : wMs q 62 q i = true := by simp [wMs, nb_d]
    have U3 : Un (fun k i' s => Nat.beq k 62) M2 (sI M2 62 q i v) := Un.rfl.pI rfl
    refine ih (i + 1) (eb y fun r => eb (nuS B n 1 2000 r.1) fun z => .ok (z.1, upT r.2 91 (4 * w + i) z.2)) (sI M2 62 q i v) (by omega) ((hU.trans (U2.mono wMs_re)).pI w62) ?_ (fun r hr j hj => ?_) ?_
    · rw [eb_eb, show (eb y fun a => eb (eb (nuS B n 1 2000 a.1) fun z => .ok (z.1, upT a.2 91 (4 * w + i) z.2)) fun r => .ok r.1) = (eb (eb (eb y fun r => .ok r.1) (nuS B n 1 2000)) fun r => .ok r.1) from by
        rw [eb_eb, eb_eb]
        exact eb_cg (fun a _ => by rw [eb_pr, eb_k])]
      exact P2.un U3 (fun s _ => rfl) (fun _ => rfl) (fun k s hk => by rcases hk with rfl | rfl | rfl | rfl | rfl <;> rfl)
    · obtain ⟨r0, z1, z2⟩ := eb_ok hr
      obtain ⟨r1, z3, z4⟩ := eb_ok z2
      cases z4
      rw [mI_sI]
      show _ = upT r0.2 91 (4 * w + i) r1.2 91 (4 * w + j)
      by_cases e : j = i
      · rw [if_pos ⟨rfl, rfl, e⟩, e, upT_eq]
        exact V2 r1 (by rw [z1, eb_k, eb_k]; exact z3)
      · rw [if_neg (fun z => e z.2.2), upT_na (by omega)]
        exact (U2.I rfl).trans (hL r0 z1 j (by omega))
    · rw [← he, eb_eb]
      refine eb_cg (fun a _ => ?_)
      rw [eb_eb, msS]
      exact eb_cg (fun z _ => by rw [eb_k])
theorem put_at {M : Mem} {q s : Nat} {v : Int32} (h : s = 6 ∨ s = 7 ∨ s = 8 ∨ s = 10) : Un (wMa q) M (sI M 10 q s v) := Un.rfl.pI (by simp [wMa, nb_d, nl_d]; omega)
set_option maxHeartbeats 4000000 in
set_option maxRecDepth 4000 in
theorem c_tellMake (Ω : Om) (M : Mem) (B : Nat → Nat) (n q w so : Nat) (s : Ps) (T : Tx) (K : Ka) (hso : 205 ≤ so ∧ so ≤ 208) (h : PsC M B n (.ok s)) (hW : WmP M q w T)
    (hK : ∀ M', Un (wMq q) M M' → PsC M' B n (eb (mkS B n w so s T) fun r => .ok r.1) → (∀ r, mkS B n w so s T = .ok r → WmP M' q w r.2) → K none M') :
    CallS Ω true m_Reader_tellMake [vR (some (4, 0)), vR (some (10, q)), vI (nI so)] M K := by
  refine call_go (hJL rfl) (Nat.le_of_ble_eq_true rfl) (go_wp ok_Reader_tellMake [78, 107] 250 _ _ _ _ _ _ ?_)
  conv => whnf
  refine ⟨fun r M' => r = none ∧ Un wRe M M' ∧ PsC M' B n (tkS B n so s), c_take Ω M B n so (.ok s) _ (by omega) h (fun M' a b => ⟨rfl, a, by rw [eb_k] at b; exact b⟩), trivial, ?_⟩
  rintro r M1 ⟨rfl, U1, P1⟩
  have W1 := hW.re U1
  generalize hx1 : tkS B n so s = x1 at P1
  unfold mkS at hK
  rw [hx1] at hK
  have en : ∀ v, v < 300 → nI so = nI v → so = v := fun v hv e => (nI_eq (by omega) (by omega)).mp e
  conv => whnf
  refine And.intro (fun z => ?_) (fun z1 => And.intro (fun z => ?_) (fun z2 => And.intro (fun z => ?_) (fun z3 => ?_)))
  · have z := en 205 (by decide) z
    subst z
    rw [show (eb x1 fun s => if 205 = 205 then eb (nuS B n 50 2000 s) fun r => .ok (r.1, upT T 87 w r.2) else if 205 = 206 then eb (nuS B n 0 2000 s) fun r => .ok (r.1, upT T 88 w r.2) else if 205 = 207 then eb (sdS B n 9 s) fun r => .ok (r.1, upT T 89 w r.2) else eb (msS B n w 4 0 s T) fun r => .ok (r.1, upT r.2 90 w 1) : Except Fa (Ps × Tx)) = eb x1 fun s => eb (nuS B n 50 2000 s) fun r => .ok (r.1, upT T 87 w r.2) from eb_cg (fun s _ => if_pos rfl)] at hK
    conv => whnf
    refine ⟨fun r M' => ∃ v, r = some (vI v) ∧ Un wRe M1 M' ∧ PsC M' B n (eb (eb x1 (nuS B n 50 2000)) fun r => .ok r.1) ∧ ∀ r, eb x1 (nuS B n 50 2000) = .ok r → v = r.2, c_number Ω M1 B n 50 2000 _ _ P1 (fun M' v a b c => ⟨v, rfl, a, b, c⟩), trivial, ?_⟩
    rintro r M2 ⟨v, rfl, U2, P2, V2⟩
    conv => whnf
    refine hK _ (((U1.trans U2).mono wMq_re).trans ((put_at (by omega)).mono wMq_ma)) ?_ (fun r hr => ?_)
    · rw [eb_eb, show (eb x1 fun a => eb (eb (nuS B n 50 2000 a) fun r => .ok (r.1, upT T 87 w r.2)) fun r => .ok r.1) = eb (eb x1 (nuS B n 50 2000)) fun r => .ok r.1 from by rw [eb_eb]; exact eb_cg (fun a _ => eb_pr)]
      exact P2.ma (put_at (by omega))
    · obtain ⟨s1, g1, hr⟩ := eb_ok hr
      obtain ⟨r1, g2, hr⟩ := eb_ok hr
      cases hr
      obtain ⟨b1, b2, b3, b4, b5⟩ := W1.re U2
      refine ⟨?_, ?_, ?_, ?_, ?_⟩
      · show mI _ 10 q 6 = upT T 87 w r1.2 87 w
        rw [mI_eq, upT_eq]; exact V2 r1 (by rw [g1, eb_k]; exact g2)
      · show mI _ 10 q 7 = upT T 87 w r1.2 88 w
        rw [mI_st rfl, upT_nf rfl]; exact b2
      · show mI _ 10 q 8 = upT T 87 w r1.2 89 w
        rw [mI_st rfl, upT_nf rfl]; exact b3
      · show mI _ 10 q 10 = upT T 87 w r1.2 90 w
        rw [mI_st rfl, upT_nf rfl]; exact b4
      · show upT T 87 w r1.2 90 w = 1 → ∀ j, j < 4 → mI _ 62 q j = upT T 87 w r1.2 91 (4 * w + j)
        intro e j hj
        rw [mI_ne rfl, upT_nf rfl]; rw [upT_nf rfl] at e; exact b5 e j hj
  · have z := en 206 (by decide) z
    subst z
    rw [show (eb x1 fun s => if 206 = 205 then eb (nuS B n 50 2000 s) fun r => .ok (r.1, upT T 87 w r.2) else if 206 = 206 then eb (nuS B n 0 2000 s) fun r => .ok (r.1, upT T 88 w r.2) else if 206 = 207 then eb (sdS B n 9 s) fun r => .ok (r.1, upT T 89 w r.2) else eb (msS B n w 4 0 s T) fun r => .ok (r.1, upT r.2 90 w 1) : Except Fa (Ps × Tx)) = eb x1 fun s => eb (nuS B n 0 2000 s) fun r => .ok (r.1, upT T 88 w r.2) from eb_cg (fun s _ => by rw [if_neg (by decide), if_pos rfl])] at hK
    conv => whnf
    refine ⟨fun r M' => ∃ v, r = some (vI v) ∧ Un wRe M1 M' ∧ PsC M' B n (eb (eb x1 (nuS B n 0 2000)) fun r => .ok r.1) ∧ ∀ r, eb x1 (nuS B n 0 2000) = .ok r → v = r.2, c_number Ω M1 B n 0 2000 _ _ P1 (fun M' v a b c => ⟨v, rfl, a, b, c⟩), trivial, ?_⟩
    rintro r M2 ⟨v, rfl, U2, P2, V2⟩
    conv => whnf
    refine hK _ (((U1.trans U2).mono wMq_re).trans ((put_at (by omega)).mono wMq_ma)) ?_ (fun r hr => ?_)
    · rw [eb_eb, show (eb x1 fun a => eb (eb (nuS B n 0 2000 a) fun r => .ok (r.1, upT T 88 w r.2)) fun r => .ok r.1) = eb (eb x1 (nuS B n 0 2000)) fun r => .ok r.1 from by rw [eb_eb]; exact eb_cg (fun a _ => eb_pr)]
      exact P2.ma (put_at (by omega))
    · obtain ⟨s1, g1, hr⟩ := eb_ok hr
      obtain ⟨r1, g2, hr⟩ := eb_ok hr
      cases hr
      obtain ⟨b1, b2, b3, b4, b5⟩ := W1.re U2
      refine ⟨?_, ?_, ?_, ?_, ?_⟩
      · show mI _ 10 q 6 = upT T 88 w r1.2 87 w
        rw [mI_st rfl, upT_nf rfl]; exact b1
      · show mI _ 10 q 7 = upT T 88 w r1.2 88 w
        rw [mI_eq, upT_eq]; exact V2 r1 (by rw [g1, eb_k]; exact g2)
      · show mI _ 10 q 8 = upT T 88 w r1.2 89 w
        rw [mI_st rfl, upT_nf rfl]; exact b3
      · show mI _ 10 q 10 = upT T 88 w r1.2 90 w
        rw [mI_st rfl, upT_nf rfl]; exact b4
      · show upT T 88 w r1.2 90 w = 1 → ∀ j, j < 4 → mI _ 62 q j = upT T 88 w r1.2 91 (4 * w + j)
        intro e j hj
        rw [mI_ne rfl, upT_nf rfl]; rw [upT_nf rfl] at e; exact b5 e j hj
  · have z := en 207 (by decide) z
    subst z
    rw [show (eb x1 fun s => if 207 = 205 then eb (nuS B n 50 2000 s) fun r => .ok (r.1, upT T 87 w r.2) else if 207 = 206 then eb (nuS B n 0 2000 s) fun r => .ok (r.1, upT T 88 w r.2) else if 207 = 207 then eb (sdS B n 9 s) fun r => .ok (r.1, upT T 89 w r.2) else eb (msS B n w 4 0 s T) fun r => .ok (r.1, upT r.2 90 w 1) : Except Fa (Ps × Tx)) = eb x1 fun s => eb (sdS B n 9 s) fun r => .ok (r.1, upT T 89 w r.2) from eb_cg (fun s _ => by rw [if_neg (by decide), if_neg (by decide), if_pos rfl])] at hK
    conv => whnf
    refine ⟨fun r M' => ∃ v, r = some (vI v) ∧ Un wRe M1 M' ∧ PsC M' B n (eb (eb x1 (sdS B n 9)) fun r => .ok r.1) ∧ ∀ r, eb x1 (sdS B n 9) = .ok r → v = r.2, c_signed Ω M1 B n 9 _ _ P1 (fun M' v a b c => ⟨v, rfl, a, b, c⟩), trivial, ?_⟩
    rintro r M2 ⟨v, rfl, U2, P2, V2⟩
    conv => whnf
    refine hK _ (((U1.trans U2).mono wMq_re).trans ((put_at (by omega)).mono wMq_ma)) ?_ (fun r hr => ?_)
    · rw [eb_eb, show (eb x1 fun a => eb (eb (sdS B n 9 a) fun r => .ok (r.1, upT T 89 w r.2)) fun r => .ok r.1) = eb (eb x1 (sdS B n 9)) fun r => .ok r.1 from by rw [eb_eb]; exact eb_cg (fun a _ => eb_pr)]
      exact P2.ma (put_at (by omega))
    · obtain ⟨s1, g1, hr⟩ := eb_ok hr
      obtain ⟨r1, g2, hr⟩ := eb_ok hr
      cases hr
      obtain ⟨b1, b2, b3, b4, b5⟩ := W1.re U2
      refine ⟨?_, ?_, ?_, ?_, ?_⟩
      · show mI _ 10 q 6 = upT T 89 w r1.2 87 w
        rw [mI_st rfl, upT_nf rfl]; exact b1
      · show mI _ 10 q 7 = upT T 89 w r1.2 88 w
        rw [mI_st rfl, upT_nf rfl]; exact b2
      · show mI _ 10 q 8 = upT T 89 w r1.2 89 w
        rw [mI_eq, upT_eq]; exact V2 r1 (by rw [g1, eb_k]; exact g2)
      · show mI _ 10 q 10 = upT T 89 w r1.2 90 w
        rw [mI_st rfl, upT_nf rfl]; exact b4
      · show upT T 89 w r1.2 90 w = 1 → ∀ j, j < 4 → mI _ 62 q j = upT T 89 w r1.2 91 (4 * w + j)
        intro e j hj
        rw [mI_ne rfl, upT_nf rfl]; rw [upT_nf rfl] at e; exact b5 e j hj
  · have z1 : ¬ so = 205 := fun e => z1 (by rw [e]; rfl)
    have z2 : ¬ so = 206 := fun e => z2 (by rw [e]; rfl)
    have z3 : ¬ so = 207 := fun e => z3 (by rw [e]; rfl)
    rw [show (eb x1 fun s => if so = 205 then eb (nuS B n 50 2000 s) fun r => .ok (r.1, upT T 87 w r.2) else if so = 206 then eb (nuS B n 0 2000 s) fun r => .ok (r.1, upT T 88 w r.2) else if so = 207 then eb (sdS B n 9 s) fun r => .ok (r.1, upT T 89 w r.2) else eb (msS B n w 4 0 s T) fun r => .ok (r.1, upT r.2 90 w 1) : Except Fa (Ps × Tx)) = eb x1 fun s => eb (msS B n w 4 0 s T) fun r => .ok (r.1, upT r.2 90 w 1) from eb_cg (fun s _ => by rw [if_neg z1, if_neg z2, if_neg z3])] at hK
    conv => whnf
    refine ms_loop (M0 := M1) (tl := eb x1 fun s => msS B n w 4 0 s T) (fun M2 r3 U2 P2 L2 => ?_) 4 0 (eb x1 fun s => .ok (s, T)) M1 rfl Un.rfl (by rw [eb_pr, eb_id]; exact P1) (fun r _ j hj => absurd hj (Nat.not_lt_zero _)) (by rw [eb_eb]; exact eb_cg (fun a _ => by rw [eb_k]))
    refine go_wp ok_Reader_tellMake [] 250 _ _ _ _ _ _ ?_
    conv => whnf
    refine And.intro (Or.inr rfl) ?_
    conv => whnf
    refine hK _ (((U1.mono wMq_re).trans (U2.mono wMs_q)).trans ((put_at (by omega)).mono wMq_ma)) ?_ (fun r hr => ?_)
    · rw [eb_eb, show (eb x1 fun a => eb (eb (msS B n w 4 0 a T) fun r => .ok (r.1, upT r.2 90 w 1)) fun r => .ok r.1) = eb (eb x1 fun s => msS B n w 4 0 s T) fun r => .ok r.1 from by rw [eb_eb]; exact eb_cg (fun a _ => eb_pr)]
      exact P2.ma (put_at (by omega))
    · obtain ⟨s1, g1, hr⟩ := eb_ok hr
      obtain ⟨r1, g2, hr⟩ := eb_ok hr
      cases hr
      obtain ⟨b1, b2, b3, b4, b5⟩ := W1
      have u : ∀ g a, ¬ g = 91 → r1.2 g a = T g a := fun g a hg => msS_T g2 g a (fun e => absurd e hg)
      have v : ∀ s, mI M2 10 q s = mI M1 10 q s := fun s => U2.I (by simp [wMs, wRe, nb_d])
      refine ⟨?_, ?_, ?_, ?_, ?_⟩
      · show mI _ 10 q 6 = upT r1.2 90 w 1 87 w
        rw [mI_st rfl, upT_nf rfl, u _ _ (by decide), v]; exact b1
      · show mI _ 10 q 7 = upT r1.2 90 w 1 88 w
        rw [mI_st rfl, upT_nf rfl, u _ _ (by decide), v]; exact b2
      · show mI _ 10 q 8 = upT r1.2 90 w 1 89 w
        rw [mI_st rfl, upT_nf rfl, u _ _ (by decide), v]; exact b3
      · show mI _ 10 q 10 = upT r1.2 90 w 1 90 w
        rw [mI_eq, upT_eq]
      · show upT r1.2 90 w 1 90 w = 1 → ∀ j, j < 4 → mI _ 62 q j = upT r1.2 90 w 1 91 (4 * w + j)
        intro e j hj
        rw [mI_ne rfl, upT_nf rfl]
        exact L2 r1 (by rw [g1, eb_k]; exact g2) j hj
