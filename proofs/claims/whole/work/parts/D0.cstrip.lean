/-! READ: the class's reader: a strip -/
def wSq (q k i s : Nat) : Bool := wRe k i s || wSb q k i s
theorem wSq_re {q : Nat} : ∀ k i s, wSq q k i s = false → wRe k i s = false := fun k i s h => (Bool.or_eq_false_iff.mp h).1
theorem wSq_sb {q : Nat} : ∀ k i s, wSq q k i s = false → wSb q k i s = false := fun k i s h => (Bool.or_eq_false_iff.mp h).2
theorem PsC.sb {M M' : Mem} {B : Nat → Nat} {n q : Nat} {e : Except Fa Ps} (hP : PsC M B n e) (hU : Un (wSb q) M M') : PsC M' B n e := hP.un hU (fun s _ => by simp [wSb, nb_d, nl_d]) (fun _ => by simp [wSb, nb_d, nl_d]) (fun k s hk => by simp [wSb, nb_d, nl_d]; omega)
theorem San3.re {M M' : Mem} {q : Nat} (h : San3 M q) (hU : Un wRe M M') : San3 M' q := by
  obtain ⟨c, a, b⟩ := h
  exact ⟨c, a, (hU.I rfl).trans b⟩
theorem WsP.re {M M' : Mem} {q w ns : Nat} {T : Tx} {lt : Option (Nat × Nat)} (h : WsP M q w T ns lt) (hU : Un wRe M M') : WsP M' q w T ns lt := ⟨(hU.I rfl).trans h.1, fun i hi => ⟨(hU.I rfl).trans (h.2 i hi).1, (hU.I rfl).trans (h.2 i hi).2.1, fun hl => ⟨(hU.I rfl).trans ((h.2 i hi).2.2 hl).1, (hU.I rfl).trans ((h.2 i hi).2.2 hl).2.1, (hU.I rfl).trans ((h.2 i hi).2.2 hl).2.2⟩⟩⟩
/-- the page with one more strip -/
def sT (T : Tx) (w ns : Nat) (x1 x2 x3 x4 x5 : Int32) : Tx := upT (upT (upT (upT (upT (upT T 92 (10 * w + ns) x1) 93 (10 * w + ns) x2) 94 (10 * w + ns) x3) 95 (10 * w + ns) x4) 96 (10 * w + ns) x5) 86 w (nI (ns + 1))
theorem sT_at {T : Tx} {w ns : Nat} {x1 x2 x3 x4 x5 : Int32} : sT T w ns x1 x2 x3 x4 x5 92 (10 * w + ns) = x1 ∧ sT T w ns x1 x2 x3 x4 x5 93 (10 * w + ns) = x2 ∧ sT T w ns x1 x2 x3 x4 x5 94 (10 * w + ns) = x3 ∧ sT T w ns x1 x2 x3 x4 x5 95 (10 * w + ns) = x4 ∧ sT T w ns x1 x2 x3 x4 x5 96 (10 * w + ns) = x5 ∧ sT T w ns x1 x2 x3 x4 x5 86 w = nI (ns + 1) := by
  unfold sT
  refine ⟨?_, ?_, ?_, ?_, ?_, upT_eq⟩
  · rw [upT_nf rfl, upT_nf rfl, upT_nf rfl, upT_nf rfl, upT_nf rfl, upT_eq]
  · rw [upT_nf rfl, upT_nf rfl, upT_nf rfl, upT_nf rfl, upT_eq]
  · rw [upT_nf rfl, upT_nf rfl, upT_nf rfl, upT_eq]
  · rw [upT_nf rfl, upT_nf rfl, upT_eq]
  · rw [upT_nf rfl, upT_eq]
theorem sT_ne {T : Tx} {w ns : Nat} {x1 x2 x3 x4 x5 : Int32} {f a : Nat} (h1 : f = 86 → ¬ a = w) (h2 : 92 ≤ f ∧ f ≤ 96 → ¬ a = 10 * w + ns) : sT T w ns x1 x2 x3 x4 x5 f a = T f a := by
  unfold sT upT
  rw [if_neg (fun q => h1 q.1 q.2), if_neg (fun q => h2 (by omega) q.2), if_neg (fun q => h2 (by omega) q.2), if_neg (fun q => h2 (by omega) q.2), if_neg (fun q => h2 (by omega) q.2), if_neg (fun q => h2 (by omega) q.2)]
/-- the hinge of a strip -/
def onS (B : Nat → Nat) (n : Nat) (N : Nm) (s : Ps) : Except Fa (Ps × Option Nat) := if tkK B n s.1 = 210 then eb (tkS B n 210 s) fun s => knS B n 202 s N else .ok (s, none)
theorem stp_eq {B : Nat → Nat} {n w ns : Nat} {N : Nm} {s : Ps} {T : Tx} : stpS B n w ns N s T = eb (nuS B n 1 9 s) fun r1 => eb (knS B n 200 r1.1 N) fun r2 => eb (knS B n 201 r2.1 N) fun r3 => eb (sdS B n 30 r3.1) fun r4 => eb (onS B n N r4.1) fun r5 => .ok (r5.1, sT T w ns r1.2 (nI (r2.2.getD 0)) (nI (r3.2.getD 0)) r4.2 (hI r5.2)) := rfl
theorem onS_mo {B : Nat → Nat} {n : Nat} {N : Nm} {s : Ps} {r : Ps × Option Nat} (h : onS B n N s = .ok r) : Mo s r.1 := by
  unfold onS at h
  split at h
  · obtain ⟨a, h6, h7⟩ := eb_ok h
    exact (tkS_mo h6).1.trans (knS_mo h7)
  · cases h
    exact Mo.rfl
theorem hI_0 {o : Option Nat} {s : Ps} {B : Nat → Nat} {n so : Nat} {N : Nm} {r : Ps × Option Nat} (h : knS B n so s N = .ok r) (hn : r.1.2.2 = none) : hI r.2 = nI (r.2.getD 0) := by
  obtain ⟨a, h1, h2⟩ := eb_ok h
  cases h2
  have h3 := (bl_none hn).1
  show hI (nmF N (tkV B n a.2.1) so) = nI ((nmF N (tkV B n a.2.1) so).getD 0)
  cases hf : nmF N (tkV B n a.2.1) so with
  | none => rw [hf] at h3; cases h3
  | some k => rfl
set_option maxHeartbeats 4000000 in
set_option maxRecDepth 4000 in
theorem c_tellStrip (Ω : Om) (M : Mem) (B : Nat → Nat) (n t w q ns : Nat) (N : Nm) (x : Except Fa (Ps × Tx)) (K : Ka) (hns : ns ≤ 9) (h : PsC M B n (eb x fun r => .ok r.1)) (hS1 : San1 M t) (hS3 : San3 M q) (hl : N.length ≤ 24) (hN : ∀ r, x = .ok r → r.1.2.2 = none → NmC M t N) (hx : ∀ r, x = .ok r → WsP M q w r.2 ns r.1.2.2)
    (hK : ∀ M', Un (wSq q) M M' → PsC M' B n (eb (eb x fun r => stpS B n w ns N r.1 r.2) fun r => .ok r.1) → San3 M' q → (∀ r, (eb x fun r => stpS B n w ns N r.1 r.2) = .ok r → WsP M' q w r.2 (ns + 1) r.1.2.2) → K none M') :
    CallS Ω true m_Reader_tellStrip [vR (some (4, 0)), vR (some (7, t)), vR (some (10, q))] M K := by
  refine call_go (hJL rfl) (Nat.le_of_ble_eq_true rfl) (go_wp ok_Reader_tellStrip [66] 250 _ _ _ _ _ _ ?_)
  conv => whnf
  refine ⟨fun r M' => ∃ v, r = some (vI v) ∧ Un wRe M M' ∧ PsC M' B n (eb (eb (eb x fun r => .ok r.1) (nuS B n 1 9)) fun r => .ok r.1) ∧ ∀ r, eb (eb x fun r => .ok r.1) (nuS B n 1 9) = .ok r → v = r.2, c_number Ω M B n 1 9 _ _ h (fun M' v a b c => ⟨v, rfl, a, b, c⟩), trivial, ?_⟩
  rintro r M1 ⟨v1, rfl, U1, P1, V1⟩
  generalize ha1 : eb (eb x fun r => .ok r.1) (nuS B n 1 9) = a1 at P1 V1
  have nm1 : ∀ s, (eb a1 fun r => .ok r.1) = .ok s → s.2.2 = none → NmC M1 t N := fun s hs hn => by
    obtain ⟨r1, z1, z2⟩ := eb_ok hs
    cases z2
    rw [← ha1, eb_eb] at z1
    obtain ⟨r0, z3, z4⟩ := eb_ok z1
    rw [eb_k] at z4
    exact (hN r0 z3 ((nuS_mo z4).2 hn)).re U1
  conv => whnf
  refine ⟨fun r M' => ∃ v, r = some (vI v) ∧ Un wRe M1 M' ∧ PsC M' B n (eb (eb (eb a1 fun r => .ok r.1) fun s => knS B n 200 s N) fun r => .ok r.1) ∧ ∀ r, (eb (eb a1 fun r => .ok r.1) fun s => knS B n 200 s N) = .ok r → r.1.2.2 = none → v = hI r.2, c_known Ω M1 B n t 200 N _ _ (by decide) P1 (hS1.re U1) hl nm1 (fun M' v a b c => ⟨v, rfl, a, b, c⟩), trivial, ?_⟩
  rintro r M2 ⟨v2, rfl, U2, P2, V2⟩
  generalize ha2 : (eb (eb a1 fun r => .ok r.1) fun s => knS B n 200 s N) = a2 at P2 V2
  have nm2 : ∀ s, (eb a2 fun r => .ok r.1) = .ok s → s.2.2 = none → NmC M2 t N := fun s hs hn => by
    obtain ⟨r1, z1, z2⟩ := eb_ok hs
    cases z2
    rw [← ha2] at z1
    obtain ⟨r0, z3, z4⟩ := eb_ok z1
    exact (nm1 r0 z3 ((knS_mo z4).2 hn)).re U2
  conv => whnf
  refine ⟨fun r M' => ∃ v, r = some (vI v) ∧ Un wRe M2 M' ∧ PsC M' B n (eb (eb (eb a2 fun r => .ok r.1) fun s => knS B n 201 s N) fun r => .ok r.1) ∧ ∀ r, (eb (eb a2 fun r => .ok r.1) fun s => knS B n 201 s N) = .ok r → r.1.2.2 = none → v = hI r.2, c_known Ω M2 B n t 201 N _ _ (by decide) P2 ((hS1.re U1).re U2) hl nm2 (fun M' v a b c => ⟨v, rfl, a, b, c⟩), trivial, ?_⟩
  rintro r M3 ⟨v3, rfl, U3, P3, V3⟩
  generalize ha3 : (eb (eb a2 fun r => .ok r.1) fun s => knS B n 201 s N) = a3 at P3 V3
  have nm3 : ∀ s, (eb a3 fun r => .ok r.1) = .ok s → s.2.2 = none → NmC M3 t N := fun s hs hn => by
    obtain ⟨r1, z1, z2⟩ := eb_ok hs
    cases z2
    rw [← ha3] at z1
    obtain ⟨r0, z3, z4⟩ := eb_ok z1
    exact (nm2 r0 z3 ((knS_mo z4).2 hn)).re U3
  conv => whnf
  refine ⟨fun r M' => ∃ v, r = some (vI v) ∧ Un wRe M3 M' ∧ PsC M' B n (eb (eb (eb a3 fun r => .ok r.1) (sdS B n 30)) fun r => .ok r.1) ∧ ∀ r, eb (eb a3 fun r => .ok r.1) (sdS B n 30) = .ok r → v = r.2, c_signed Ω M3 B n 30 _ _ P3 (fun M' v a b c => ⟨v, rfl, a, b, c⟩), trivial, ?_⟩
  rintro r M4 ⟨v4, rfl, U4, P4, V4⟩
  generalize ha4 : eb (eb a3 fun r => .ok r.1) (sdS B n 30) = a4 at P4 V4
  have nm4 : ∀ s, (eb a4 fun r => .ok r.1) = .ok s → s.2.2 = none → NmC M4 t N := fun s hs hn => by
    obtain ⟨r1, z1, z2⟩ := eb_ok hs
    cases z2
    rw [← ha4] at z1
    obtain ⟨r0, z3, z4⟩ := eb_ok z1
    exact (nm3 r0 z3 ((sdS_mo z4).2 hn)).re U4
  have U04 : Un wRe M M4 := ((U1.trans U2).trans U3).trans U4
  -- behind the hinge
  have last : ∀ (M5 : Mem) (v5 : Int32), Un wRe M4 M5 → PsC M5 B n (eb (eb (eb a4 fun r => .ok r.1) (onS B n N)) fun r => .ok r.1) → (∀ r, eb (eb a4 fun r => .ok r.1) (onS B n N) = .ok r → r.1.2.2 = none → v5 = hI r.2) → GoS Ω true m_Reader_tellStrip K 66 [some (vR (some (4, 0))), some (vR (some (7, t))), some (vR (some (10, q))), some (vI v1), some (vI v2), some (vI v3), some (vI v4), some (vI v5)] [] M5 0 0 := by
    intro M5 v5 U5 P5 V5
    refine go_wp ok_Reader_tellStrip [] 250 _ _ _ _ _ _ ?_
    conv => whnf
    refine ⟨fun r M' => r = none ∧ Un (wSb q) M5 M' ∧ San3 M' q ∧ (∀ ns, mI M5 10 q 0 = nI ns → ns ≤ 9 → mI M' 10 q 0 = nI (ns + 1) ∧ (∀ k i, 57 ≤ k → k ≤ 61 → ¬ i = ns → mI M' k q i = mI M5 k q i) ∧ mI M' 57 q ns = v1 ∧ mI M' 58 q ns = v2 ∧ mI M' 59 q ns = v3 ∧ mI M' 60 q ns = v4 ∧ mI M' 61 q ns = v5), c_addStrip Ω M5 q v1 v2 v3 v4 v5 _ ((hS3.re U04).re U5) (fun M' a b c => ⟨rfl, a, b, c⟩), trivial, ?_⟩
    rintro r M6 ⟨rfl, U6, S6, A6⟩
    have eq : eb (eb x fun r => stpS B n w ns N r.1 r.2) (fun r => .ok r.1) = eb (eb (eb a4 fun r => .ok r.1) (onS B n N)) fun r => .ok r.1 := by
      rw [← ha4, ← ha3, ← ha2, ← ha1]
      simp only [stp_eq, eb_eb, eb_k]
    conv => whnf
    refine hK M6 (((U04.trans U5).mono wSq_re).trans (U6.mono wSq_sb)) (by rw [eq]; exact P5.sb U6) S6 (fun r hr => ?_)
    obtain ⟨r0, g0, hr⟩ := eb_ok hr
    rw [stp_eq] at hr
    obtain ⟨r1, g1, hr⟩ := eb_ok hr
    obtain ⟨r2, g2, hr⟩ := eb_ok hr
    obtain ⟨r3, g3, hr⟩ := eb_ok hr
    obtain ⟨r4, g4, hr⟩ := eb_ok hr
    obtain ⟨r5, g5, hr⟩ := eb_ok hr
    cases hr
    have f1 : a1 = .ok r1 := by rw [← ha1, g0, eb_k, eb_k]; exact g1
    have f2 : a2 = .ok r2 := by rw [← ha2, f1, eb_k, eb_k]; exact g2
    have f3 : a3 = .ok r3 := by rw [← ha3, f2, eb_k, eb_k]; exact g3
    have f4 : a4 = .ok r4 := by rw [← ha4, f3, eb_k, eb_k]; exact g4
    have m45 := onS_mo g5
    have m35 := (sdS_mo g4).trans m45
    have m25 := (knS_mo g3).trans m35
    have m05 := ((nuS_mo g1).trans (knS_mo g2)).trans m25
    have hW := ((hx r0 g0).re U04).re U5
    obtain ⟨b1, b2, b3, b4, b5, b6, b7⟩ := A6 ns hW.1 hns
    have hat := @sT_at r0.2 w ns r1.2 (nI (r2.2.getD 0)) (nI (r3.2.getD 0)) r4.2 (hI r5.2)
    refine ⟨b1, fun i hi => ?_⟩
    by_cases z : i = ns
    · subst z
      show mI M6 57 q i = sT r0.2 w i r1.2 (nI (r2.2.getD 0)) (nI (r3.2.getD 0)) r4.2 (hI r5.2) 92 (10 * w + i) ∧ mI M6 60 q i = sT r0.2 w i r1.2 (nI (r2.2.getD 0)) (nI (r3.2.getD 0)) r4.2 (hI r5.2) 95 (10 * w + i) ∧ _
      refine ⟨by rw [b3, hat.1]; exact V1 r1 f1, by rw [b6, hat.2.2.2.1]; exact V4 r4 f4, fun hn => ?_⟩
      show mI M6 58 q i = sT r0.2 w i r1.2 (nI (r2.2.getD 0)) (nI (r3.2.getD 0)) r4.2 (hI r5.2) 93 (10 * w + i) ∧ mI M6 59 q i = sT r0.2 w i r1.2 (nI (r2.2.getD 0)) (nI (r3.2.getD 0)) r4.2 (hI r5.2) 94 (10 * w + i) ∧ mI M6 61 q i = sT r0.2 w i r1.2 (nI (r2.2.getD 0)) (nI (r3.2.getD 0)) r4.2 (hI r5.2) 96 (10 * w + i)
      refine ⟨?_, ?_, ?_⟩
      · rw [b4, hat.2.1, V2 r2 f2 (m25.2 hn)]
        exact hI_0 (o := none) g2 (m25.2 hn)
      · rw [b5, hat.2.2.1, V3 r3 f3 (m35.2 hn)]
        exact hI_0 (o := none) g3 (m35.2 hn)
      · rw [b7, hat.2.2.2.2.1]
        exact V5 r5 (by rw [f4, eb_k, eb_k]; exact g5) hn
    · obtain ⟨w1, w2, w3⟩ := hW.2 i (by omega)
      have en : ∀ f, sT r0.2 w ns r1.2 (nI (r2.2.getD 0)) (nI (r3.2.getD 0)) r4.2 (hI r5.2) f (10 * w + i) = r0.2 f (10 * w + i) ∨ f = 86 := fun f => by
        by_cases y : f = 86
        · exact Or.inr y
        · exact Or.inl (sT_ne (fun q => absurd q y) (fun _ => by omega))
      have en := fun f (hf : ¬ f = 86) => (en f).resolve_right hf
      show mI M6 57 q i = sT r0.2 w ns r1.2 (nI (r2.2.getD 0)) (nI (r3.2.getD 0)) r4.2 (hI r5.2) 92 (10 * w + i) ∧ mI M6 60 q i = sT r0.2 w ns r1.2 (nI (r2.2.getD 0)) (nI (r3.2.getD 0)) r4.2 (hI r5.2) 95 (10 * w + i) ∧ (_ → mI M6 58 q i = sT r0.2 w ns r1.2 (nI (r2.2.getD 0)) (nI (r3.2.getD 0)) r4.2 (hI r5.2) 93 (10 * w + i) ∧ mI M6 59 q i = sT r0.2 w ns r1.2 (nI (r2.2.getD 0)) (nI (r3.2.getD 0)) r4.2 (hI r5.2) 94 (10 * w + i) ∧ mI M6 61 q i = sT r0.2 w ns r1.2 (nI (r2.2.getD 0)) (nI (r3.2.getD 0)) r4.2 (hI r5.2) 96 (10 * w + i))
      rw [en 92 (by decide), en 93 (by decide), en 94 (by decide), en 95 (by decide), en 96 (by decide), b2 57 i (by decide) (by decide) z, b2 58 i (by decide) (by decide) z, b2 59 i (by decide) (by decide) z, b2 60 i (by decide) (by decide) z, b2 61 i (by decide) (by decide) z]
      exact ⟨w1, w2, fun hn => w3 (m05.2 hn)⟩
  conv => whnf
  refine And.intro (fun c => ?_) (fun c => ?_)
  · refine last M4 (-1) Un.rfl ?_ (fun r hr hn => ?_)
    · rcases rd_fault P4 with ⟨fa, e1, e2⟩ | ⟨s, e1, e2, e3⟩
      · rw [e1] at P4
        rw [e1, eb_x, eb_x]
        exact P4
      · have z : ¬ tkK B n s.1 = 210 := fun z => c (by rw [e3, z]; rfl)
        rw [e1] at P4
        rw [e1, eb_k]
        unfold onS
        rw [if_neg z, eb_k]
        exact P4
    · obtain ⟨s, g1, g2⟩ := eb_ok hr
      rcases rd_fault P4 with ⟨fa, e1, e2⟩ | ⟨s', e1, e2, e3⟩
      · rw [e1] at g1; cases g1
      · rw [e1] at g1
        cases g1
        have z : ¬ tkK B n s.1 = 210 := fun z => c (by rw [e3, z]; rfl)
        unfold onS at g2
        rw [if_neg z] at g2
        cases g2
        rfl
  · conv => whnf
    refine ⟨fun r M' => r = none ∧ Un wRe M4 M' ∧ PsC M' B n (eb (eb a4 fun r => .ok r.1) (tkS B n 210)), c_take Ω M4 B n 210 _ _ ⟨by decide, by decide⟩ P4 (fun M' a b => ⟨rfl, a, b⟩), trivial, ?_⟩
    rintro r M5 ⟨rfl, U5, P5⟩
    conv => whnf
    refine ⟨fun r M' => ∃ v, r = some (vI v) ∧ Un wRe M5 M' ∧ PsC M' B n (eb (eb (eb (eb a4 fun r => .ok r.1) (tkS B n 210)) fun s => knS B n 202 s N) fun r => .ok r.1) ∧ ∀ r, (eb (eb (eb a4 fun r => .ok r.1) (tkS B n 210)) fun s => knS B n 202 s N) = .ok r → r.1.2.2 = none → v = hI r.2, c_known Ω M5 B n t 202 N _ _ (by decide) P5 ((hS1.re U04).re U5) hl (fun s hs hn => ?_) (fun M' v a b c => ⟨v, rfl, a, b, c⟩), trivial, ?_⟩
    · obtain ⟨s0, z1, z2⟩ := eb_ok hs
      exact (nm4 s0 z1 ((tkS_mo z2).1.2 hn)).re U5
    rintro r M6 ⟨v5, rfl, U6, P6, V6⟩
    conv => whnf
    have eo : eb (eb a4 fun r => .ok r.1) (onS B n N) = eb (eb (eb a4 fun r => .ok r.1) (tkS B n 210)) fun s => knS B n 202 s N := by
      rw [eb_eb (eb a4 fun r => .ok r.1) (tkS B n 210)]
      refine eb_cg (fun s hs => ?_)
      rcases rd_fault P4 with ⟨fa, e1, e2⟩ | ⟨s', e1, e2, e3⟩
      · rw [e1] at hs; cases hs
      · rw [e1] at hs
        cases hs
        rw [e3] at c
        unfold onS
        rw [if_pos ((tk_e (c := 210) (by decide)).mp c)]
    exact last M6 v5 (U5.trans U6) (by rw [eo]; exact P6) (fun r hr hn => V6 r (by rw [← eo]; exact hr) hn)
