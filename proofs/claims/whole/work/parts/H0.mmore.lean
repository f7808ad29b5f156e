/-! READ: the model's reader: what more is told of a wing -/
def wMr (p w k i s : Nat) : Bool := wMn k i s || ((Nat.ble 87 k && Nat.ble k 90) && Nat.beq s (4 * p + w) || Nat.beq k 91 && Nat.beq (s / 4) (4 * p + w))
theorem wMr_mn {p w : Nat} : ∀ k i s, wMr p w k i s = false → wMn k i s = false := fun k i s q => (Bool.or_eq_false_iff.mp q).1
theorem wMr_me {p w : Nat} : ∀ k i s, wMr p w k i s = false → wMe k i s = false := fun k i s q => wMn_me k i s (wMr_mn k i s q)
theorem wMr_1 {p w k0 : Nat} (h1 : 87 ≤ k0) (h2 : k0 ≤ 90) : ∀ k i s, wMr p w k i s = false → w1 k0 (4 * p + w) k i s = false := mono_of (fun k i s g => by
  have : k = k0 ∧ s = 4 * p + w := by simpa [w1, nb_d] using g
  simp [wMr, wMn, nb_d, nl_d]
  omega)
theorem wMr_91 {p w i : Nat} (h : i < 4) : ∀ k j s, wMr p w k j s = false → w1 91 (4 * (4 * p + w) + i) k j s = false := mono_of (fun k j s g => by
  have : k = 91 ∧ s = 4 * (4 * p + w) + i := by simpa [w1, nb_d] using g
  simp [wMr, wMn, nb_d, nl_d]
  omega)
theorem mkS_5 {B : Nat → Nat} {n w : Nat} {s : Ps} {T : Tx} : mkS B n w 205 s T = eb (tkS B n 205 s) fun s => eb (nuS B n 50 2000 s) fun r => .ok (r.1, upT T 87 w r.2) := by
  unfold mkS; refine eb_cg (fun a _ => ?_); rw [if_pos rfl]
theorem mkS_6 {B : Nat → Nat} {n w : Nat} {s : Ps} {T : Tx} : mkS B n w 206 s T = eb (tkS B n 206 s) fun s => eb (nuS B n 0 2000 s) fun r => .ok (r.1, upT T 88 w r.2) := by
  unfold mkS; refine eb_cg (fun a _ => ?_); rw [if_neg (by decide), if_pos rfl]
theorem mkS_7 {B : Nat → Nat} {n w : Nat} {s : Ps} {T : Tx} : mkS B n w 207 s T = eb (tkS B n 207 s) fun s => eb (sdS B n 9 s) fun r => .ok (r.1, upT T 89 w r.2) := by
  unfold mkS; refine eb_cg (fun a _ => ?_); rw [if_neg (by decide), if_neg (by decide), if_pos rfl]
theorem mkS_8 {B : Nat → Nat} {n w : Nat} {s : Ps} {T : Tx} : mkS B n w 208 s T = eb (tkS B n 208 s) fun s => eb (msS B n w 4 0 s T) fun r => .ok (r.1, upT r.2 90 w 1) := by
  unfold mkS; refine eb_cg (fun a _ => ?_); rw [if_neg (by decide), if_neg (by decide), if_neg (by decide)]
theorem mr_fst {α : Type} {B : Nat → Nat} {e : Except Fa Ps} {g : Ps → Except Fa (Ps × Int32)} {f : Ps × Int32 → α} : (eb (eb e fun s => eb (g s) fun r => .ok (r.1, f r)) fun r => .ok r.1) = eb (eb e g) fun r => .ok r.1 := by
  cases e with
  | error f => rfl
  | ok s =>
    simp only [eb_k]
    cases g s with
    | error f => rfl
    | ok r => rfl
theorem ms_step {B : Nat → Nat} {n w f i : Nat} {e : Except Fa (Ps × Tx)} : (eb e fun r => msS B n w (f + 1) i r.1 r.2) = eb (eb e fun r => eb (nuS B n 1 2000 r.1) fun q => .ok (q.1, upT r.2 91 (4 * w + i) q.2)) fun r => msS B n w f (i + 1) r.1 r.2 := by
  cases e with
  | error f => rfl
  | ok r =>
    simp only [eb_k]
    rw [msS]
    cases nuS B n 1 2000 r.1 with
    | error f => rfl
    | ok q => rfl
theorem ms_fst {B : Nat → Nat} {n w i : Nat} {e : Except Fa (Ps × Tx)} : (eb (eb e fun r => eb (nuS B n 1 2000 r.1) fun q => .ok (q.1, upT r.2 91 (4 * w + i) q.2)) fun r => .ok r.1) = eb (eb (eb e fun r => .ok r.1) (nuS B n 1 2000)) fun r => .ok r.1 := by
  cases e with
  | error f => rfl
  | ok r =>
    simp only [eb_k]
    cases nuS B n 1 2000 r.1 with
    | error f => rfl
    | ok q => rfl
set_option maxHeartbeats 2000000 in
theorem mm_loop {Ω : Om} {K : Ka} {M0 : Mem} {B : Nat → Nat} {n p w : Nat} {a2 : Int32} (hn : n ≤ 2000) (hp : p < 4) (hw : w < 4) {tl : Except Fa (Ps × Tx)}
    (hN : ∀ M', Un (wMr p w) M0 M' → PsM M' B n (eb tl fun r => .ok r.1) → (∀ r, tl = .ok r → PgX pgf M' p r.2) → K none (sI M' 90 0 (4 * p + w) 1)) :
    ∀ (f i : Nat) (e : Except Fa (Ps × Tx)) (M : Mem), f + i = 4 → Un (wMr p w) M0 M → PsM M B n (eb e fun r => .ok r.1) → (∀ r, e = .ok r → PgX pgf M p r.2) → (eb e fun r => msS B n w f i r.1 r.2) = tl →
      GoS Ω true m_MD_tellMore K 119 [some (vR (some (12, 0))), some (vI (nI (4 * p + w))), some (vI a2), some (vI (nI i))] [] M 0 0 := by
  intro f
  induction f with
  | zero =>
    intro i e M hf hU P G htl
    have hi : i = 4 := by omega
    have htl : e = tl := by
      rw [← htl]
      cases e with
      | error f => rfl
      | ok r => rfl
    rw [htl] at P G
    refine go_wp ok_MD_tellMore [119] 250 _ _ _ _ _ _ ?_
    refine And.intro (fun _ => ?_) (fun q => absurd (show nI 4 ≤ nI i by rw [hi]; exact Int32.le_refl _) q)
    conv => whnf
    refine And.intro (vp_in_nI (by omega) (by decide)) (And.intro (Or.inr rfl) ?_)
    rw [nI_clamp (by omega)]
    conv => whnf
    exact hN M hU P G
  | succ f ih =>
    intro i e M hf hU P G htl
    have hi : i < 4 := by omega
    refine go_wp ok_MD_tellMore [119] 250 _ _ _ _ _ _ ?_
    refine And.intro (fun q => ?_) (fun _ => ?_)
    · have q : nI 4 ≤ nI i := q
      rw [nI_leI (by omega) (by omega)] at q
      omega
    conv => whnf
    rw [show (4 : Int32) = nI 4 from rfl, pk_mul, nI_add]
    refine ⟨fun r M' => ∃ v, r = some (vI v) ∧ Un wMn M M' ∧ PsM M' B n (eb (eb (eb e fun r => .ok r.1) (numS B n false)) fun r => .ok r.1) ∧ (∀ r, eb (eb e fun r => .ok r.1) (numS B n false) = .ok r → v = r.2 ∧ mI M' 12 0 58 = nI r.1.2.1), c_MD_number Ω M B n false _ _ P (fun M' v a b c => ⟨v, rfl, a, b, c⟩), trivial, ?_⟩
    rintro r M1 ⟨v, rfl, U1, P1, V1⟩
    conv => whnf
    refine And.intro (vp_in_nI (by omega) (by decide)) ?_
    rw [nI_clamp (by omega)]
    have Q1 : Un (w1 91 (4 * (4 * p + w) + i)) M1 (sI M1 91 0 (4 * (4 * p + w) + i) v) := w1_I
    have z1 : mI (sI M1 91 0 (4 * (4 * p + w) + i) v) 91 0 (4 * (4 * p + w) + i) = v := mI_eq
    generalize sI M1 91 0 (4 * (4 * p + w) + i) v = Ma at Q1 z1
    have P1 := P1.c1 (by decide) Q1
    have V1 : ∀ r, eb (eb e fun r => .ok r.1) (numS B n false) = .ok r → v = r.2 ∧ mI Ma 12 0 58 = nI r.1.2.1 := fun r hr => ⟨(V1 r hr).1, (Q1.I rfl).trans (V1 r hr).2⟩
    conv => whnf
    rw [show (4 : Int32) = nI 4 from rfl, pk_mul, nI_add]
    refine And.intro (vp_in_nI (by omega) (by decide)) ?_
    rw [nI_clamp (by omega), z1]
    conv => whnf
    have c1 := pn_chain (B := B) (n := n) (lo := 1) (hi := 2000) (e := eb e fun r => .ok r.1) (fun r hr => (V1 r hr).1)
    refine ⟨fun r M' => r = none ∧ Un wMe Ma M' ∧ PsM M' B n (eb (eb (eb e fun r => .ok r.1) (nuS B n 1 2000)) fun r => .ok r.1), c_MD_within Ω Ma B n v 1 2000 _ _ hn P1 (nu_in P V1) (fun M' a b => ⟨rfl, a, by rw [← c1]; exact b⟩), trivial, ?_⟩
    rintro r M2 ⟨rfl, U2, P2⟩
    conv => whnf
    rw [nI_1]
    have R1 : ∀ r, eb (eb e fun r => .ok r.1) (nuS B n 1 2000) = .ok r → v = r.2 := fun r hr => num_nu (fun r hr => (V1 r hr).1) hr
    refine ih (i + 1) (eb e fun r => eb (nuS B n 1 2000 r.1) fun q => .ok (q.1, upT r.2 91 (4 * w + i) q.2)) M2 (by omega) (hU.trans ((U1.mono wMr_mn).trans ((Q1.mono (wMr_91 hi)).trans (U2.mono wMr_me)))) (by rw [ms_fst]; exact P2) (fun r hr => ?_) (by rw [← ms_step]; exact htl)
    obtain ⟨r0, g1, g2⟩ := eb_ok hr
    obtain ⟨q, g3, g4⟩ := eb_ok g2
    have hv : v = q.2 := R1 q (by rw [g1, eb_k, eb_k]; exact g3)
    cases g4
    rw [← hv]
    exact (((G r0 g1).me U1).u1 Q1 z1 (by show _ = 16 * p + (4 * w + i); omega)).me (U2.mono wMn_me)
set_option maxHeartbeats 4000000 in
theorem c_MD_tellMore (Ω : Om) (M : Mem) (B : Nat → Nat) (n p w so : Nat) (s : Ps) (T : Tx) (K : Ka) (hn : n ≤ 2000) (hp : p < 4) (hw : w < 4) (h : PsM M B n (.ok s)) (htk : tkK B n s.1 = so) (hk : so = 205 ∨ so = 206 ∨ so = 207 ∨ so = 208) (hPg : PgX pgf M p T)
    (hK : ∀ M', Un (wMr p w) M M' → PsM M' B n (eb (mkS B n w so s T) fun r => .ok r.1) → (∀ r, mkS B n w so s T = .ok r → PgX pgf M' p r.2) → K none M') :
    CallS Ω true m_MD_tellMore [vR (some (12, 0)), vI (nI (4 * p + w))] M K := by
  have hr := h.2.1.1
  have h5 := hr.1
  refine call_go (hJL rfl) (Nat.le_of_ble_eq_true rfl) (go_wp ok_MD_tellMore [119] 250 _ _ _ _ _ _ ?_)
  conv => whnf
  rw [h.2.2.1]
  refine And.intro (vp_in_nI (by omega) (by decide)) ?_
  rw [nI_clamp (by omega), (h.1 s.1 hr).1, htk]
  conv => whnf
  refine ⟨fun r M' => r = none ∧ Un wMe M M' ∧ PsM M' B n (tkS B n so s), c_MD_goesOn Ω M B n s _ (by omega) h (fun M' a b => ⟨rfl, a, by unfold tkS; rw [if_pos htk]; exact b⟩), trivial, ?_⟩
  rintro r M1 ⟨rfl, U1, P1⟩
  conv => whnf
  have hP1 := hPg.me (U1.mono wMn_me)
  rcases hk with rfl | rfl | rfl | rfl
  · refine And.intro (fun q => absurd rfl q) (fun _ => ?_)
    conv => whnf
    refine ⟨fun r M' => ∃ v, r = some (vI v) ∧ Un wMn M1 M' ∧ PsM M' B n (eb (eb (tkS B n 205 s) (numS B n false)) fun r => .ok r.1) ∧ (∀ r, eb (tkS B n 205 s) (numS B n false) = .ok r → v = r.2 ∧ mI M' 12 0 58 = nI r.1.2.1), c_MD_number Ω M1 B n false _ _ P1 (fun M' v a b c => ⟨v, rfl, a, b, c⟩), trivial, ?_⟩
    rintro r M2 ⟨v, rfl, U2, P2, V2⟩
    conv => whnf
    refine And.intro (vp_in_nI (by omega) (by decide)) ?_
    rw [nI_clamp (by omega)]
    have Q2 : Un (w1 87 (4 * p + w)) M2 (sI M2 87 0 (4 * p + w) v) := w1_I
    have z2 : mI (sI M2 87 0 (4 * p + w) v) 87 0 (4 * p + w) = v := mI_eq
    generalize sI M2 87 0 (4 * p + w) v = Ma at Q2 z2
    have P2 := P2.c1 (by decide) Q2
    have V2 : ∀ r, eb (tkS B n 205 s) (numS B n false) = .ok r → v = r.2 ∧ mI Ma 12 0 58 = nI r.1.2.1 := fun r hr => ⟨(V2 r hr).1, (Q2.I rfl).trans (V2 r hr).2⟩
    conv => whnf
    refine And.intro (vp_in_nI (by omega) (by decide)) ?_
    rw [nI_clamp (by omega), z2]
    conv => whnf
    have c2 := pn_chain (B := B) (n := n) (lo := 50) (hi := 2000) (e := tkS B n 205 s) (fun r hr => (V2 r hr).1)
    refine ⟨fun r M' => r = none ∧ Un wMe Ma M' ∧ PsM M' B n (eb (eb (tkS B n 205 s) (nuS B n 50 2000)) fun r => .ok r.1), c_MD_within Ω Ma B n v 50 2000 _ _ hn P2 (nu_in P1 V2) (fun M' a b => ⟨rfl, a, by rw [← c2]; exact b⟩), trivial, ?_⟩
    rintro r M3 ⟨rfl, U3, P3⟩
    conv => whnf
    refine hK M3 ((U1.mono wMr_me).trans ((U2.mono wMr_mn).trans ((Q2.mono (wMr_1 (by decide) (by decide))).trans (U3.mono wMr_me)))) ?_ (fun r hr => ?_)
    · rw [mkS_5]
      rw [mr_fst (B := B) (g := fun s => nuS B n 50 2000 s) (f := fun r => upT T 87 w r.2)]
      exact P3
    · rw [mkS_5] at hr
      obtain ⟨s1, g1, g2⟩ := eb_ok hr
      obtain ⟨q, g3, g4⟩ := eb_ok g2
      have hv : v = q.2 := num_nu (e := tkS B n 205 s) (lo := 50) (hi := 2000) (fun r hr => (V2 r hr).1) (by rw [g1, eb_k]; exact g3)
      cases g4
      rw [← hv]
      exact ((hP1.me U2).u1 Q2 z2 rfl).me (U3.mono wMn_me)
  · refine And.intro (fun _ => ?_) (fun q => absurd q (by decide))
    refine And.intro (fun q => absurd rfl q) (fun _ => ?_)
    conv => whnf
    refine ⟨fun r M' => ∃ v, r = some (vI v) ∧ Un wMn M1 M' ∧ PsM M' B n (eb (eb (tkS B n 206 s) (numS B n false)) fun r => .ok r.1) ∧ (∀ r, eb (tkS B n 206 s) (numS B n false) = .ok r → v = r.2 ∧ mI M' 12 0 58 = nI r.1.2.1), c_MD_number Ω M1 B n false _ _ P1 (fun M' v a b c => ⟨v, rfl, a, b, c⟩), trivial, ?_⟩
    rintro r M2 ⟨v, rfl, U2, P2, V2⟩
    conv => whnf
    refine And.intro (vp_in_nI (by omega) (by decide)) ?_
    rw [nI_clamp (by omega)]
    have Q2 : Un (w1 88 (4 * p + w)) M2 (sI M2 88 0 (4 * p + w) v) := w1_I
    have z2 : mI (sI M2 88 0 (4 * p + w) v) 88 0 (4 * p + w) = v := mI_eq
    generalize sI M2 88 0 (4 * p + w) v = Ma at Q2 z2
    have P2 := P2.c1 (by decide) Q2
    have V2 : ∀ r, eb (tkS B n 206 s) (numS B n false) = .ok r → v = r.2 ∧ mI Ma 12 0 58 = nI r.1.2.1 := fun r hr => ⟨(V2 r hr).1, (Q2.I rfl).trans (V2 r hr).2⟩
    conv => whnf
    refine And.intro (vp_in_nI (by omega) (by decide)) ?_
    rw [nI_clamp (by omega), z2]
    conv => whnf
    have c2 := pn_chain (B := B) (n := n) (lo := 0) (hi := 2000) (e := tkS B n 206 s) (fun r hr => (V2 r hr).1)
    refine ⟨fun r M' => r = none ∧ Un wMe Ma M' ∧ PsM M' B n (eb (eb (tkS B n 206 s) (nuS B n 0 2000)) fun r => .ok r.1), c_MD_within Ω Ma B n v 0 2000 _ _ hn P2 (nu_in P1 V2) (fun M' a b => ⟨rfl, a, by rw [← c2]; exact b⟩), trivial, ?_⟩
    rintro r M3 ⟨rfl, U3, P3⟩
    conv => whnf
    refine hK M3 ((U1.mono wMr_me).trans ((U2.mono wMr_mn).trans ((Q2.mono (wMr_1 (by decide) (by decide))).trans (U3.mono wMr_me)))) ?_ (fun r hr => ?_)
    · rw [mkS_6]
      rw [mr_fst (B := B) (g := fun s => nuS B n 0 2000 s) (f := fun r => upT T 88 w r.2)]
      exact P3
    · rw [mkS_6] at hr
      obtain ⟨s1, g1, g2⟩ := eb_ok hr
      obtain ⟨q, g3, g4⟩ := eb_ok g2
      have hv : v = q.2 := num_nu (e := tkS B n 206 s) (lo := 0) (hi := 2000) (fun r hr => (V2 r hr).1) (by rw [g1, eb_k]; exact g3)
      cases g4
      rw [← hv]
      exact ((hP1.me U2).u1 Q2 z2 rfl).me (U3.mono wMn_me)
  · refine And.intro (fun _ => ?_) (fun q => absurd q (by decide))
    refine And.intro (fun _ => ?_) (fun q => absurd q (by decide))
    refine And.intro (fun q => absurd rfl q) (fun _ => ?_)
    conv => whnf
    refine ⟨fun r M' => ∃ v, r = some (vI v) ∧ Un wMn M1 M' ∧ PsM M' B n (eb (eb (tkS B n 207 s) (numS B n true)) fun r => .ok r.1) ∧ (∀ r, eb (tkS B n 207 s) (numS B n true) = .ok r → v = r.2 ∧ mI M' 12 0 58 = nI r.1.2.1), c_MD_number Ω M1 B n true _ _ P1 (fun M' v a b c => ⟨v, rfl, a, b, c⟩), trivial, ?_⟩
    rintro r M2 ⟨v, rfl, U2, P2, V2⟩
    conv => whnf
    refine And.intro (vp_in_nI (by omega) (by decide)) ?_
    rw [nI_clamp (by omega)]
    have Q2 : Un (w1 89 (4 * p + w)) M2 (sI M2 89 0 (4 * p + w) v) := w1_I
    have z2 : mI (sI M2 89 0 (4 * p + w) v) 89 0 (4 * p + w) = v := mI_eq
    generalize sI M2 89 0 (4 * p + w) v = Ma at Q2 z2
    have P2 := P2.c1 (by decide) Q2
    have V2 : ∀ r, eb (tkS B n 207 s) (numS B n true) = .ok r → v = r.2 ∧ mI Ma 12 0 58 = nI r.1.2.1 := fun r hr => ⟨(V2 r hr).1, (Q2.I rfl).trans (V2 r hr).2⟩
    conv => whnf
    refine And.intro (vp_in_nI (by omega) (by decide)) ?_
    rw [nI_clamp (by omega), z2]
    conv => whnf
    have c2 := py_chain (B := B) (n := n) (lim := 9) (e := tkS B n 207 s) (by decide) (by decide) (fun r hr => (V2 r hr).1)
    refine ⟨fun r M' => r = none ∧ Un wMe Ma M' ∧ PsM M' B n (eb (eb (tkS B n 207 s) (sdS B n 9)) fun r => .ok r.1), c_MD_within Ω Ma B n v (-9) 9 _ _ hn P2 (nu_in P1 V2) (fun M' a b => ⟨rfl, a, by rw [← c2]; exact b⟩), trivial, ?_⟩
    rintro r M3 ⟨rfl, U3, P3⟩
    conv => whnf
    refine hK M3 ((U1.mono wMr_me).trans ((U2.mono wMr_mn).trans ((Q2.mono (wMr_1 (by decide) (by decide))).trans (U3.mono wMr_me)))) ?_ (fun r hr => ?_)
    · rw [mkS_7]
      rw [mr_fst (B := B) (g := fun s => sdS B n 9 s) (f := fun r => upT T 89 w r.2)]
      exact P3
    · rw [mkS_7] at hr
      obtain ⟨s1, g1, g2⟩ := eb_ok hr
      obtain ⟨q, g3, g4⟩ := eb_ok g2
      have hv : v = q.2 := num_sd (e := tkS B n 207 s) (lim := 9) (by decide) (by decide) (fun r hr => (V2 r hr).1) (by rw [g1, eb_k]; exact g3)
      cases g4
      rw [← hv]
      exact ((hP1.me U2).u1 Q2 z2 rfl).me (U3.mono wMn_me)
  · refine And.intro (fun _ => ?_) (fun q => absurd q (by decide))
    refine And.intro (fun _ => ?_) (fun q => absurd q (by decide))
    refine And.intro (fun _ => ?_) (fun q => absurd q (by decide))
    conv => whnf
    refine mm_loop (M0 := M1) (tl := eb (eb (tkS B n 208 s) fun s => .ok (s, T)) fun r => msS B n w 4 0 r.1 r.2) hn hp hw (fun M' U' P' G' => ?_) 4 0 (eb (tkS B n 208 s) fun s => .ok (s, T)) M1 rfl Un.rfl ?_ (fun r hr => ?_) rfl
    · have Q2 : Un (w1 90 (4 * p + w)) M' (sI M' 90 0 (4 * p + w) 1) := w1_I
      have z2 : mI (sI M' 90 0 (4 * p + w) 1) 90 0 (4 * p + w) = 1 := mI_eq
      generalize sI M' 90 0 (4 * p + w) 1 = Ma at Q2 z2
      have eq : (eb (mkS B n w 208 s T) fun r => .ok r.1) = eb (eb (eb (tkS B n 208 s) fun s => .ok (s, T)) fun r => msS B n w 4 0 r.1 r.2) fun r => .ok r.1 := by
        rw [mkS_8]
        cases tkS B n 208 s with
        | error f => rfl
        | ok s1 =>
          simp only [eb_k]
          cases msS B n w 4 0 s1 T with
          | error f => rfl
          | ok r => rfl
      refine hK Ma ((U1.mono wMr_me).trans (U'.trans (Q2.mono (wMr_1 (by decide) (by decide))))) ?_ (fun r hr => ?_)
      · rw [eq]
        exact P'.c1 (by decide) Q2
      · rw [mkS_8] at hr
        obtain ⟨s1, g1, g2⟩ := eb_ok hr
        obtain ⟨q, g3, g4⟩ := eb_ok g2
        have := G' q (by rw [g1, eb_k, eb_k]; exact g3)
        cases g4
        exact this.u1 Q2 z2 rfl
    · cases ht : tkS B n 208 s with
      | error f =>
        rw [ht] at P1
        exact P1
      | ok s1 =>
        rw [ht] at P1
        exact P1
    · obtain ⟨s1, g1, g2⟩ := eb_ok hr
      cases g2
      exact hP1
