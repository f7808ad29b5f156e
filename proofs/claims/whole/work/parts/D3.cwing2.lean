/-! READ: the class's reader: a wing, II -/
def wWb (t k i s : Nat) : Bool := Nat.beq k 7 && (Nat.beq s 6 && Nat.beq i t)
def wWi (t q k i s : Nat) : Bool := (wSq q k i s || wMa q k i s) || (wNb t k i s || wWb t k i s)
theorem wWi_sq {t q : Nat} : ∀ k i s, wWi t q k i s = false → wSq q k i s = false := fun k i s h => (Bool.or_eq_false_iff.mp (Bool.or_eq_false_iff.mp h).1).1
theorem wWi_ma {t q : Nat} : ∀ k i s, wWi t q k i s = false → wMa q k i s = false := fun k i s h => (Bool.or_eq_false_iff.mp (Bool.or_eq_false_iff.mp h).1).2
theorem wWi_nb {t q : Nat} : ∀ k i s, wWi t q k i s = false → wNb t k i s = false := fun k i s h => (Bool.or_eq_false_iff.mp (Bool.or_eq_false_iff.mp h).2).1
theorem wWi_wb {t q : Nat} : ∀ k i s, wWi t q k i s = false → wWb t k i s = false := fun k i s h => (Bool.or_eq_false_iff.mp (Bool.or_eq_false_iff.mp h).2).2
theorem wWi_re {t q : Nat} : ∀ k i s, wWi t q k i s = false → wRe k i s = false := fun k i s h => wSq_re k i s (wWi_sq k i s h)
theorem wWi_na {t q : Nat} : ∀ k i s, wWi t q k i s = false → wNa t k i s = false := fun k i s h => by unfold wNa; rw [wWi_re k i s h, wWi_nb k i s h]; rfl
theorem wWi_mq {t q : Nat} : ∀ k i s, wWi t q k i s = false → wMq q k i s = false := fun k i s h => by unfold wMq; rw [wWi_re k i s h, wWi_ma k i s h]; rfl
/-- a wing of which nothing is told, in the class -/
def WgD (M : Mem) (q : Nat) : Prop := mI M 10 q 0 = 0 ∧ mI M 10 q 6 = 200 ∧ mI M 10 q 7 = 0 ∧ mI M 10 q 8 = 0 ∧ mI M 10 q 10 = 0
theorem WgD.un {w : Nat → Nat → Nat → Bool} {M M' : Mem} {q : Nat} (h : WgD M q) (hU : Un w M M') (hw : ∀ s, w 10 q s = false) : WgD M' q := ⟨(hU.I (hw _)).trans h.1, (hU.I (hw _)).trans h.2.1, (hU.I (hw _)).trans h.2.2.1, (hU.I (hw _)).trans h.2.2.2.1, (hU.I (hw _)).trans h.2.2.2.2⟩
theorem WmP.de {M : Mem} {q w : Nat} {T : Tx} (h : mI M 10 q 6 = 200 ∧ mI M 10 q 7 = 0 ∧ mI M 10 q 8 = 0 ∧ mI M 10 q 10 = 0) : WmP M q w (deT T w) := by
  unfold deT
  refine ⟨?_, ?_, ?_, ?_, fun e => ?_⟩
  · rw [upT_nf rfl, upT_nf rfl, upT_nf rfl, upT_eq]; exact h.1
  · rw [upT_nf rfl, upT_nf rfl, upT_eq]; exact h.2.1
  · rw [upT_nf rfl, upT_eq]; exact h.2.2.1
  · rw [upT_eq]; exact h.2.2.2
  · rw [upT_eq] at e; cases e
theorem mkS_T {B : Nat → Nat} {n w so : Nat} {s : Ps} {T : Tx} {r : Ps × Tx} (h : mkS B n w so s T = .ok r) : ∀ f a, (87 ≤ f ∧ f ≤ 90 → ¬ a = w) → (f = 91 → a < 4 * w ∨ 4 * w + 4 ≤ a) → r.2 f a = T f a := by
  intro f a h1 h2
  obtain ⟨s1, g1, h⟩ := eb_ok h
  split at h
  · obtain ⟨b, h3, h4⟩ := eb_ok h; cases h4
    unfold upT; exact if_neg (fun q => h1 (by omega) q.2)
  · split at h
    · obtain ⟨b, h3, h4⟩ := eb_ok h; cases h4
      unfold upT; exact if_neg (fun q => h1 (by omega) q.2)
    · split at h
      · obtain ⟨b, h3, h4⟩ := eb_ok h; cases h4
        unfold upT; exact if_neg (fun q => h1 (by omega) q.2)
      · obtain ⟨b, h3, h4⟩ := eb_ok h; cases h4
        show upT b.2 90 w 1 f a = T f a
        unfold upT
        rw [if_neg (fun q => h1 (by omega) q.2)]
        exact msS_T h3 f a (fun e => by have := h2 e; omega)
theorem mkL_T {B : Nat → Nat} {n w : Nat} : ∀ {f : Nat} {s : Ps} {T : Tx} {r : Ps × Tx}, mkL B n w f s T = .ok r → ∀ g a, (87 ≤ g ∧ g ≤ 90 → ¬ a = w) → (g = 91 → a < 4 * w ∨ 4 * w + 4 ≤ a) → r.2 g a = T g a := by
  intro f
  induction f with
  | zero => intro s T r h; cases h; intro _ _ _ _; rfl
  | succ f ih =>
    intro s T r h g a h1 h2
    rw [mkL] at h
    split at h
    · obtain ⟨b, h3, h4⟩ := eb_ok h
      exact (ih h4 g a h1 h2).trans (mkS_T h3 g a h1 h2)
    · cases h; rfl
theorem deT_ne {T : Tx} {w f a : Nat} (h1 : 87 ≤ f ∧ f ≤ 90 → ¬ a = w) : deT T w f a = T f a := by
  unfold deT upT
  rw [if_neg (fun q => h1 (by omega) q.2), if_neg (fun q => h1 (by omega) q.2), if_neg (fun q => h1 (by omega) q.2), if_neg (fun q => h1 (by omega) q.2)]
theorem WsP.cg {M M' : Mem} {q w ns : Nat} {T T' : Tx} {lt lt' : Option (Nat × Nat)} (h : WsP M q w T ns lt) (hU : ∀ k i, (k = 10 ∧ i = 0) ∨ (57 ≤ k ∧ k ≤ 61) → mI M' k q i = mI M k q i) (hT : ∀ f a, 92 ≤ f → f ≤ 96 → T' f a = T f a) (hl : lt' = none → lt = none) : WsP M' q w T' ns lt' := by
  refine ⟨(hU 10 0 (by omega)).trans h.1, fun i hi => ?_⟩
  obtain ⟨a, b, c⟩ := h.2 i hi
  rw [hT 92 _ (by decide) (by decide), hT 93 _ (by decide) (by decide), hT 94 _ (by decide) (by decide), hT 95 _ (by decide) (by decide), hT 96 _ (by decide) (by decide), hU 57 i (by omega), hU 58 i (by omega), hU 59 i (by omega), hU 60 i (by omega), hU 61 i (by omega)]
  exact ⟨a, b, fun e => c (hl e)⟩
set_option maxHeartbeats 4000000 in
set_option maxRecDepth 4000 in
theorem c_tellWing (Ω : Om) (M : Mem) (B : Nat → Nat) (n t : Nat) (s : Ps) (C : Cn) (K : Ka) (h : PsC M B n (.ok s)) (h1 : mI M 7 t 6 = nI (xw C)) (h8 : xw C ≤ 4) (hD : xw C < 4 → WgD M (4 * t + xw C)) (hS1 : San1 M t) (hN : s.2.2 = none → NmC M t (xN C)) (hlen : xw C < 4 → (xN C).length < 24)
    (hK : ∀ M', Un (wWi t (4 * t + xw C)) M M' → PsC M' B n (eb (wiS B n s C) fun r => .ok r.1) → San1 M' t → (∀ r, wiS B n s C = .ok r → xw C < 4 ∧ mI M' 7 t 6 = nI (xw C + 1) ∧ (∃ ns, 1 ≤ ns ∧ ns ≤ 10 ∧ xT r.2 86 (xw C) = nI ns ∧ WsP M' (4 * t + xw C) (xw C) (xT r.2) ns r.1.2.2) ∧ WmP M' (4 * t + xw C) (xw C) (xT r.2) ∧ (r.1.2.2 = none → NmC M' t (xN r.2))) → K none M') :
    CallS Ω true m_Reader_tellWing [vR (some (4, 0)), vR (some (7, t))] M K := by
  generalize hk : xw C = k at *
  generalize hq : 4 * t + k = q at *
  refine call_go (hJL rfl) (Nat.le_of_ble_eq_true rfl) (go_wp ok_Reader_tellWing [58] 250 _ _ _ _ _ _ ?_)
  conv => whnf
  rw [h1]
  refine And.intro (fun z => absurd z (nI_pos (by omega))) (fun _ => And.intro (fun z => ?_) (fun z => ?_))
  rotate_left
  · have z : ¬ nI k < nI 4 := z
    rw [nI_ltI (by omega) (by omega)] at z
    conv => whnf
    refine ⟨fun r M' => r = none ∧ Un wRe M M' ∧ PsC M' B n (eb (.ok s) fun s => .error (2, s.1)), c_stop Ω M B n 2 (.ok s) _ (Or.inr rfl) h (fun M' a b => ⟨rfl, a, b⟩), trivial, ?_⟩
    rintro r M1 ⟨rfl, q1, q2⟩
    conv => whnf
    have e : wiS B n s C = .error (2, s.1) := by unfold wiS; rw [hk, if_pos (by omega)]
    refine hK M1 (q1.mono wWi_re) ?_ (hS1.re q1) (fun r hr => by rw [e] at hr; cases hr)
    rw [e, eb_x]
    rw [eb_k] at q2
    exact q2
  have z : nI k < nI 4 := z
  rw [nI_ltI (by omega) (by omega)] at z
  have hD := hD z
  have hlen := hlen z
  conv => whnf
  refine And.intro (vp_in_nI (by omega) (by decide)) ?_
  rw [nI_clamp (by omega), rr_wing z, hq]
  conv => whnf
  refine ⟨fun r M' => r = none ∧ Un wRe M M' ∧ PsC M' B n (tkS B n 203 s), c_take Ω M B n 203 (.ok s) _ (by omega) h (fun M' a b => ⟨rfl, a, by rw [eb_k] at b; exact b⟩), trivial, ?_⟩
  rintro r M1 ⟨rfl, U1, P1⟩
  generalize hx1 : tkS B n 203 s = x1 at P1
  conv => whnf
  refine ⟨fun r M' => r = none ∧ Un (wNa t) M1 M' ∧ PsC M' B n (eb (eb x1 fun s => nmS B n 203 k s (xN C)) fun r => .ok r.1) ∧ San1 M' t ∧ (∀ r, (eb x1 fun s => nmS B n 203 k s (xN C)) = .ok r → r.1.2.2 = none → NmC M' t r.2), c_named Ω M1 B n t 203 k (xN C) x1 _ (by omega) P1 (hS1.re U1) hlen (fun s' hs' hn => (hN (by rw [← hx1] at hs'; exact (tkS_mo hs').1.2 hn)).re U1) (fun M' a b c d => ⟨rfl, a, b, c, d⟩), trivial, ?_⟩
  rintro r M2 ⟨rfl, U2, P2, S2, N2⟩
  generalize hx2 : (eb x1 fun s => nmS B n 203 k s (xN C)) = x2 at P2 N2
  have D2 : WgD M2 q := (hD.un U1 (fun s => by simp [wRe, nb_d])).un U2 (fun s => by simp [wNa, wNb, wRe, nb_d])
  have c2 : mI M2 7 t 6 = nI k := (U2.I (by simp [wNa, wNb, wRe, nb_d])).trans ((U1.I rfl).trans h1)
  conv => whnf
  refine ⟨fun r M' => r = none ∧ Un wRe M2 M' ∧ PsC M' B n (eb (eb x2 fun r => .ok r.1) (tkS B n 58)), c_take Ω M2 B n 58 _ _ ⟨by decide, by decide⟩ P2 (fun M' a b => ⟨rfl, a, b⟩), trivial, ?_⟩
  rintro r M3 ⟨rfl, U3, P3⟩
  generalize hx3 : eb (eb x2 fun r => .ok r.1) (tkS B n 58) = x3 at P3
  have D3 : WgD M3 q := D2.un U3 (fun s => by simp [wRe, nb_d])
  have S3 := S2.re U3
  conv => whnf
  -- the names in hand may be anything once a fault stands; only one row of them matters
  cases hx2v : x2 with
  | error g =>
    have hx3v : x3 = .error g := by rw [← hx3, hx2v, eb_x, eb_x]
    rw [hx3v] at P3
    have ew : wiS B n s C = .error g := by
      unfold wiS
      rw [hk, if_neg (by omega), hx1]
      have : (eb x1 fun s => nmS B n 203 k s (xN C)) = .error g := hx2.trans hx2v
      cases x1 with
      | error g' => rw [eb_x] at this ⊢; cases this; rfl
      | ok s1 =>
        rw [eb_k] at this ⊢
        rw [this, eb_x]
    have P3' : PsC M3 B n (eb (Except.error g : Except Fa (Ps × Tx)) fun r => .ok r.1) := by rw [eb_x]; exact P3
    refine ⟨fun r M' => r = none ∧ Un (wSq q) M3 M' ∧ PsC M' B n (.error g) ∧ San3 M' q, c_tellStrip Ω M3 B n t k q 0 [] (.error g) _ (by decide) P3' S3 ⟨0, by decide, D3.1⟩ (by decide) (fun r hr => by cases hr) (fun r hr => by cases hr) (fun M' a b c _ => ⟨rfl, a, by rw [eb_x, eb_x] at b; exact b, c⟩), trivial, ?_⟩
    rintro r M4 ⟨rfl, U4, P4, S4⟩
    conv => whnf
    refine st_loop (M0 := M4) (N := []) (tl := .error g) (by decide) (S3.sq U4) (fun M5 r4 U5 P5 _ => ?_) 10 1 (.error g) M4 rfl (by decide) (by decide) Un.rfl (by rw [eb_x]; exact P4) S4 (fun r hr => by cases hr) (by rw [eb_x])
    rw [eb_x] at P5
    refine go_wp ok_Reader_tellWing [117] 250 _ _ _ _ _ _ ?_
    conv => whnf
    refine mk_loop2 (M0 := M5) (tl := .error g) (fun M6 r4 U6 P6 _ => ?_) 501 0 (.error g) M5 rfl Un.rfl (by rw [eb_x]; exact P5) (fun r hr => by cases hr) (by rw [eb_x])
    rw [eb_x] at P6
    refine go_wp ok_Reader_tellWing [] 250 _ _ _ _ _ _ ?_
    conv => whnf
    refine ⟨fun r M' => r = none ∧ Un wRe M6 M' ∧ PsC M' B n (.error g), c_take Ω M6 B n 59 (.error g) _ ⟨by decide, by decide⟩ P6 (fun M' a b => ⟨rfl, a, by rw [eb_x] at b; exact b⟩), trivial, ?_⟩
    rintro r M7 ⟨rfl, U7, P7⟩
    conv => whnf
    have U36 : Un (wSq q) M3 M5 := U4.trans U5
    have w7 : wWb t 7 t 6 = true := by simp [wWb, nb_d]
    have UE : ∀ x, Un (wWb t) M7 (sI M7 7 t 6 x) := fun x => Un.rfl.pI w7
    refine hK _ ((((((((U1.mono wWi_re).trans (U2.mono wWi_na)).trans (U3.mono wWi_re)).trans (U36.mono wWi_sq)).trans (U6.mono wWi_mq)).trans (U7.mono wWi_re))).trans ((UE _).mono wWi_wb)) ?_ ?_ (fun r hr => by rw [ew] at hr; cases hr)
    · rw [ew, eb_x]
      exact P7.un (UE _) (fun s _ => by simp [wWb, nb_d]) (fun _ => by simp [wWb, nb_d]) (fun k s hk => by simp [wWb, nb_d]; omega)
    · obtain ⟨c, a, b⟩ := S3.sq U36
      exact ⟨c, a, (mI_st rfl).trans ((U7.I rfl).trans ((U6.I (by simp [wMq, wRe, wMa, nb_d, nl_d])).trans b))⟩
  | ok r2 =>
    obtain ⟨s2, N'⟩ := r2
    have N2' : s2.2.2 = none → NmC M2 t N' := N2 (s2, N') hx2v
    have hl24 : N'.length ≤ 24 := by
      rw [← hx2] at hx2v
      obtain ⟨s1, _, _, e3⟩ := nm_rr hx2v
      have e3 : N' = _ := e3
      rw [e3]
      split
      · omega
      · rw [List.length_append]; show _ + 1 ≤ 24; omega
    have hx3v : x3 = tkS B n 58 s2 := by rw [← hx3, hx2v, eb_k, eb_k]
    rw [hx3v] at P3
    clear hx3 hx3v
    generalize hx3 : tkS B n 58 s2 = x3 at P3
    have N3 : ∀ r, x3 = .ok r → r.2.2 = none → NmC M3 t N' := fun r hr hn => by
      rw [← hx3] at hr
      exact (N2' ((tkS_mo hr).1.2 hn)).re U3
    have P3' : PsC M3 B n (eb (eb x3 fun s => .ok (s, upT (xT C) 86 k 0) : Except Fa (Ps × Tx)) fun r => .ok r.1) := by rw [eb_pr, eb_id]; exact P3
    refine ⟨fun r M' => r = none ∧ Un (wSq q) M3 M' ∧ PsC M' B n (eb (eb (eb x3 fun s => .ok (s, upT (xT C) 86 k 0)) fun r => stpS B n k 0 N' r.1 r.2) fun r => .ok r.1) ∧ San3 M' q ∧ (∀ r, (eb (eb x3 fun s => .ok (s, upT (xT C) 86 k 0)) fun r => stpS B n k 0 N' r.1 r.2) = .ok r → WsP M' q k r.2 1 r.1.2.2), c_tellStrip Ω M3 B n t k q 0 N' _ _ (by decide) P3' S3 ⟨0, by decide, D3.1⟩ hl24 (fun r hr hn => ?_) (fun r hr => ?_) (fun M' a b c d => ⟨rfl, a, b, c, d⟩), trivial, ?_⟩
    · obtain ⟨s3, z1, z2⟩ := eb_ok hr
      cases z2
      exact N3 s3 z1 hn
    · obtain ⟨s3, z1, z2⟩ := eb_ok hr
      cases z2
      exact ⟨D3.1, fun i hi => absurd hi (Nat.not_lt_zero _)⟩
    rintro r M4 ⟨rfl, U4, P4, S4, L4⟩
    generalize hy1 : (eb (eb x3 fun s => .ok (s, upT (xT C) 86 k 0)) fun r => stpS B n k 0 N' r.1 r.2) = y1 at P4 L4
    have y1f : ∀ r, y1 = .ok r → ∃ s3, x3 = .ok s3 ∧ stpS B n k 0 N' s3 (upT (xT C) 86 k 0) = .ok r := fun r hr => by
      rw [← hy1] at hr
      obtain ⟨r0, z1, z2⟩ := eb_ok hr
      obtain ⟨s3, z3, z4⟩ := eb_ok z1
      cases z4
      exact ⟨s3, z3, z2⟩
    conv => whnf
    generalize htl : (eb y1 fun q => stpL B n k N' 10 1 q.1 q.2) = tl
    refine st_loop (M0 := M4) (N := N') (tl := tl) hl24 (S3.sq U4) (fun M5 r4 U5 P5 L5 => ?_) 10 1 y1 M4 rfl (by decide) (by decide) Un.rfl P4 S4 (fun r hr => ?_) htl
    · have D5 : mI M5 10 q 6 = 200 ∧ mI M5 10 q 7 = 0 ∧ mI M5 10 q 8 = 0 ∧ mI M5 10 q 10 = 0 := by
        have u : ∀ s, ¬ s = 0 → mI M5 10 q s = mI M3 10 q s := fun s hs => ((U4.trans U5).I (by simp [wSq, wRe, wSb, nb_d, nl_d]; omega))
        exact ⟨(u 6 (by decide)).trans D3.2.1, (u 7 (by decide)).trans D3.2.2.1, (u 8 (by decide)).trans D3.2.2.2.1, (u 10 (by decide)).trans D3.2.2.2.2⟩
      refine go_wp ok_Reader_tellWing [117] 250 _ _ _ _ _ _ ?_
      conv => whnf
      generalize hmk : (eb (eb tl fun q => .ok (q.1, deT q.2 k)) fun q => mkL B n k 501 q.1 q.2 : Except Fa (Ps × Tx)) = ml
      refine mk_loop2 (M0 := M5) (tl := ml) (fun M6 r4 U6 P6 L6 => ?_) 501 0 (eb tl fun q => .ok (q.1, deT q.2 k)) M5 rfl Un.rfl (by rw [eb_pr]; exact P5) (fun r hr => ?_) hmk
      · refine go_wp ok_Reader_tellWing [] 250 _ _ _ _ _ _ ?_
        conv => whnf
        refine ⟨fun r M' => r = none ∧ Un wRe M6 M' ∧ PsC M' B n (eb (eb ml fun r => .ok r.1) (tkS B n 59)), c_take Ω M6 B n 59 _ _ ⟨by decide, by decide⟩ P6 (fun M' a b => ⟨rfl, a, b⟩), trivial, ?_⟩
        rintro r M7 ⟨rfl, U7, P7⟩
        have U35 : Un (wSq q) M3 M5 := U4.trans U5
        have c7 : mI M7 7 t 6 = nI k := (U7.I rfl).trans ((U6.I (by simp [wMq, wRe, wMa, nb_d, nl_d])).trans ((U35.I (by simp [wSq, wRe, wSb, nb_d, nl_d])).trans ((U3.I rfl).trans c2)))
        conv => whnf
        rw [c7, nI_1]
        have w7 : wWb t 7 t 6 = true := by simp [wWb, nb_d]
        have UE : Un (wWb t) M7 (sI M7 7 t 6 (nI (k + 1))) := Un.rfl.pI w7
        have eq : eb (wiS B n s C) (fun r => .ok r.1) = eb (eb ml fun r => .ok r.1) (tkS B n 59) := by
          have e2 : (eb (tkS B n 203 s) fun s => nmS B n 203 k s (xN C)) = .ok (s2, N') := by rw [hx1, hx2]; exact hx2v
          rw [← hmk, ← htl, ← hy1, ← hx3]
          unfold wiS
          rw [hk, if_neg (by omega), ← eb_eb (tkS B n 203 s), e2]
          simp only [eb_eb, eb_k, eb_id]
        refine hK _ ((((((((U1.mono wWi_re).trans (U2.mono wWi_na)).trans (U3.mono wWi_re)).trans (U35.mono wWi_sq)).trans (U6.mono wWi_mq)).trans (U7.mono wWi_re))).trans (UE.mono wWi_wb)) ?_ ?_ (fun r hr => ⟨z, mI_eq, ?_, ?_, fun hn => ?_⟩)
        · rw [eq]
          exact P7.un UE (fun s _ => by simp [wWb, nb_d]) (fun _ => by simp [wWb, nb_d]) (fun k s hk => by simp [wWb, nb_d]; omega)
        · obtain ⟨c, a, b⟩ := S3.sq U35
          exact ⟨c, a, (mI_st rfl).trans ((U7.I rfl).trans ((U6.I (by simp [wMq, wRe, wMa, nb_d, nl_d])).trans b))⟩
        all_goals
          unfold wiS at hr
          rw [hk, if_neg (by omega), hx1] at hr
          rw [← eb_eb x1, hx2, hx2v, eb_k, hx3] at hr
          obtain ⟨a3, g3, hr⟩ := eb_ok hr
          obtain ⟨a4, g4, hr⟩ := eb_ok hr
          obtain ⟨a5, g5, hr⟩ := eb_ok hr
          obtain ⟨a6, g6, hr⟩ := eb_ok hr
          obtain ⟨a7, g7, hr⟩ := eb_ok hr
          cases hr
          have f4 : y1 = .ok a4 := by rw [← hy1, g3, eb_k, eb_k]; exact g4
          have f5 : tl = .ok a5 := by rw [← htl, f4, eb_k]; exact g5
          have f6 : ml = .ok a6 := by rw [← hmk, f5, eb_k, eb_k]; exact g6
        · obtain ⟨ns, z1, z2, z3, z4⟩ := L5 a5 f5
          have ht : ∀ f a, (f = 86 ∨ (92 ≤ f ∧ f ≤ 96)) → a6.2 f a = a5.2 f a := fun f a hf => (mkL_T g6 f a (fun y => by omega) (fun y => by omega)).trans (deT_ne (fun y => by omega))
          refine ⟨ns, z1, z2, (ht 86 k (by omega)).trans z3, z4.cg (fun k' i hk' => ?_) (fun f a y1 y2 => ht f a (by omega)) (fun hn => ?_)⟩
          · rw [mI_sI, if_neg (fun y => by omega)]
            exact (U7.I (by simp [wRe, nb_d]; omega)).trans (U6.I (by simp [wMq, wRe, wMa, nb_d, nl_d]; omega))
          · exact ((mkL_mo g6).trans (tkS_mo g7).1).2 hn
        · have := (L6 a6 f6).re U7
          obtain ⟨b1, b2, b3, b4, b5⟩ := this
          exact ⟨(mI_ne rfl).trans b1, (mI_ne rfl).trans b2, (mI_ne rfl).trans b3, (mI_ne rfl).trans b4, fun e j hj => (mI_ne rfl).trans (b5 e j hj)⟩
        · have m : Mo s2 a7 := ((((by rw [← hx3] at g3; exact (tkS_mo g3).1 : Mo s2 a3).trans (stpS_mo g4)).trans (stpL_mo g5)).trans (mkL_mo g6)).trans (tkS_mo g7).1
          have := ((N2' (m.2 hn)).re U3).sq U35
          refine (((this.un U6 (by simp [wMq, wRe, wMa, nb_d, nl_d]) (fun k s hk => by simp [wMq, wRe, wMa, nb_d, nl_d]; omega)).re U7).un UE (by simp [wWb, nb_d]) (fun k s hk => by simp [wWb, nb_d]; omega))
      · obtain ⟨r0, z1, z2⟩ := eb_ok hr
        cases z2
        exact WmP.de D5
    · obtain ⟨s3, z1, z2⟩ := y1f r hr
      refine ⟨fun hn => ((N3 s3 z1 ((stpS_mo z2).2 hn)).sq U4), ?_, L4 r hr⟩
      rw [stp_eq] at z2
      obtain ⟨r1, g1, z2⟩ := eb_ok z2
      obtain ⟨r2, g2, z2⟩ := eb_ok z2
      obtain ⟨r3, g3, z2⟩ := eb_ok z2
      obtain ⟨r4, g4, z2⟩ := eb_ok z2
      obtain ⟨r5, g5, z2⟩ := eb_ok z2
      cases z2
      exact sT_at.2.2.2.2.2
