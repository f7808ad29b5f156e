/-! READ: the model's reader: a wing's strips -/
def wSs (p w k i s : Nat) : Bool := wSq2 p w k i s || (Nat.beq k 86 && Nat.beq s (4 * p + w))
theorem wSs_sq {p w : Nat} : ∀ k i s, wSs p w k i s = false → wSq2 p w k i s = false := fun k i s q => (Bool.or_eq_false_iff.mp q).1
theorem wSs_mn {p w : Nat} : ∀ k i s, wSs p w k i s = false → wMn k i s = false := fun k i s q => wSq2_mn k i s (wSs_sq k i s q)
theorem wSs_me {p w : Nat} : ∀ k i s, wSs p w k i s = false → wMe k i s = false := fun k i s q => wMn_me k i s (wSs_mn k i s q)
theorem wSs_86 {p w : Nat} : ∀ k i s, wSs p w k i s = false → w1 86 (4 * p + w) k i s = false := fun k i s q => (Bool.or_eq_false_iff.mp q).2
theorem wSs_nm {p w : Nat} : ∀ k s, k = 75 ∨ k = 76 ∨ k = 81 ∨ k = 85 ∨ k = 98 → wSs p w k 0 s = false := fun k s hk => by rcases hk with rfl | rfl | rfl | rfl | rfl <;> rfl
theorem ms_out {Ω : Om} {K : Ka} {B : Nat → Nat} {n : Nat} {e : Except Fa Ps} {M' : Mem} {a1 a2 a4 : Option Vl} {m : Int32} (hm : m = 0 ∨ ∃ f, e = .error f) (P : PsM M' B n e)
    (hN : GoS Ω true m_MD_tellWing K 233 [some (vR (some (12, 0))), a1, a2, some (vI m), a4] [] M' 0 0) : GoS Ω true m_MD_tellWing K 48 [some (vR (some (12, 0))), a1, a2, some (vI m), a4] [] M' 0 0 := by
  refine go_wp ok_MD_tellWing [233] 250 _ _ _ _ _ _ ?_
  refine And.intro (fun _ => hN) (fun q => ?_)
  rcases hm with c | ⟨f, rfl⟩
  · exact absurd c q
  · rcases rm_fault P with ⟨f, e1, e2, e3⟩ | ⟨s', e1, e2, e3⟩
    · exact And.intro (fun _ => hN) (fun z => absurd z e2)
    · cases e1
set_option maxHeartbeats 4000000 in
theorem ms_strips {Ω : Om} {K : Ka} {M0 : Mem} {B : Nat → Nat} {n p w nl nh nw nb : Nat} {Z : Prop} {N : Nm} {tt : Int32} (hn : n ≤ 2000) (hp : p < 4) (hw : w < 4) {tl : Except Fa (Ps × Tx)}
    (h20 : mI M0 12 0 20 = nI p) (h74 : mI M0 74 0 p = nI nl) (hl : nl ≤ 8) (h80 : mI M0 80 0 p = nI nh) (hh : nh ≤ 4)
    (hNm : Z → ∃ N0, NmM M0 p N0 nl nh nw nb ∧ ∀ x so, ¬ so = 203 → ¬ so = 204 → nmF N x so = nmF N0 x so)
    (hN : ∀ M' a3 a4, Un (wSs p w) M0 M' → PsM M' B n (eb tl fun r => .ok r.1) → (∀ r, tl = .ok r → PgX pgf M' p r.2 ∧ (r.1.2.2 = none → PgX nmf M' p r.2)) → GoS Ω true m_MD_tellWing K 233 [some (vR (some (12, 0))), some (vI (nI (4 * p + w))), some (vI tt), a3, a4] [] M' 0 0)
    (hE : ∀ M' f, Un (wSs p w) M0 M' → PsM M' B n (.error f) → tl = .error f → K none M') :
    ∀ f ns s T M a4, f + 1 + ns = 11 → Un (wSs p w) M0 M → PsM M B n (.ok s) → (s.2.2 = none → Z) → PgX pgf M p T → (s.2.2 = none → PgX nmf M p T) → mI M 86 0 (4 * p + w) = nI ns → stM B n w N (f + 1) ns s T = tl →
      GoS Ω true m_MD_tellWing K 48 [some (vR (some (12, 0))), some (vI (nI (4 * p + w))), some (vI tt), some (vI 1), a4] [] M 0 0 := by
  intro f
  induction f with
  | zero =>
    intro ns s T M a4 hf hU h hZ hP hPn h86 htl
    have h10 : ns = 10 := by omega
    rw [stM, if_pos h10] at htl
    refine go_wp ok_MD_tellWing [48, 233] 250 _ _ _ _ _ _ ?_
    refine And.intro (fun q => absurd q (by decide)) (fun _ => ?_)
    refine And.intro (fun q => absurd h.2.2.2.1 q) (fun _ => ?_)
    conv => whnf
    refine And.intro (vp_in_nI (by omega) (by decide)) ?_
    rw [nI_clamp (by omega), h86]
    refine And.intro (fun q => absurd (show nI ns = nI 10 by rw [h10]) q) (fun _ => ?_)
    conv => whnf
    refine ⟨fun r M' => r = none ∧ Un wMe M M' ∧ PsM M' B n (.error (2, s.1)), c_MD_fail Ω M B n 2 (.ok s) _ (Or.inr rfl) h (fun M' a b => ⟨rfl, a, b⟩), trivial, ?_⟩
    rintro r M1 ⟨rfl, U1, P1⟩
    conv => whnf
    rcases rm_fault P1 with ⟨f, e1, e2, e3⟩ | ⟨s', e1, e2, e3⟩
    · refine And.intro (fun q => absurd q e3) (fun _ => ?_)
      exact hE M1 _ (hU.trans (U1.mono wSs_me)) P1 htl.symm
    · cases e1
  | succ f ih =>
    intro ns s T M a4 hf hU h hZ hP hPn h86 htl
    have h10 : ¬ ns = 10 := by omega
    have hns : ns < 10 := by omega
    rw [stM, if_neg h10] at htl
    have h13 := h.2.2.2.1
    refine go_wp ok_MD_tellWing [48, 83, 233] 250 _ _ _ _ _ _ ?_
    refine And.intro (fun q => absurd q (by decide)) (fun _ => ?_)
    refine And.intro (fun q => absurd h13 q) (fun _ => ?_)
    conv => whnf
    refine And.intro (vp_in_nI (by omega) (by decide)) ?_
    rw [nI_clamp (by omega), h86]
    refine And.intro (fun _ => ?_) (fun q => absurd ((nI_eq (by omega) (by decide)).mp (show nI ns = nI 10 from q)) h10)
    conv => whnf
    refine And.intro (fun _ => ?_) (fun q => absurd (show mI M 12 0 13 ≤ 0 by rw [h13]; decide) q)
    refine st_turn (nl := nl) (nh := nh) (nw := nw) (nb := nb) (N := N) (T := T) hn hp hw hns h ((hU.I rfl).trans h20) ((hU.I rfl).trans h74) hl ((hU.I rfl).trans h80) hh h86 hP hPn (fun hlt => ?_) (fun Mx Ux Px Gx => ?_)
    · obtain ⟨N0, n1, n2⟩ := hNm (hZ hlt)
      exact ⟨N0, n1.un hU wSs_nm, n2⟩
    have x86 : mI Mx 86 0 (4 * p + w) = nI ns := (Ux.I rfl).trans h86
    refine go_wp ok_MD_tellWing [48, 233] 250 _ _ _ _ _ _ ?_
    conv => whnf
    refine And.intro (vp_in_nI (by omega) (by decide)) ?_
    rw [nI_clamp (by omega), x86]
    conv => whnf
    rw [nI_1]
    refine And.intro (vp_in_nI (by omega) (by decide)) ?_
    rw [nI_clamp (by omega)]
    have W5 : Un (w1 86 (4 * p + w)) Mx (sI Mx 86 0 (4 * p + w) (nI (ns + 1))) := w1_I
    have c86 : mI (sI Mx 86 0 (4 * p + w) (nI (ns + 1))) 86 0 (4 * p + w) = nI (ns + 1) := mI_eq
    generalize sI Mx 86 0 (4 * p + w) (nI (ns + 1)) = Mc at W5 c86 Gx
    have P5 := Px.c1 (by decide) W5
    have U5 : Un (wSs p w) M0 Mc := hU.trans ((Ux.mono wSs_sq).trans (W5.mono wSs_86))
    have L5 : ∀ r, stpS B n w ns N s T = .ok r → r.1.2.2 = none → s.2.2 = none := fun r hr => (stpS_mo hr).2
    generalize stpS B n w ns N s T = X at P5 Gx htl L5
    conv => whnf
    refine cl_use (fun K h' => c_MD_is Ω Mc B n 44 16 _ K rfl (by decide) rfl P5 h') trivial ?_
    conv => whnf
    refine br_bz (fun c => ?_) (fun c => ?_)
    · have htl2 : X = tl := by
        cases X with
        | error f0 => exact htl
        | ok r =>
          have c : ¬ tkK B n r.1.1 = 44 := of_decide_eq_false c
          rw [eb_k, if_neg c] at htl
          exact htl
      rw [htl2] at P5 Gx
      rw [c]
      exact ms_out (Or.inl rfl) P5 (hN Mc _ _ U5 P5 Gx)
    · cases X with
      | error f0 => cases c
      | ok r =>
        have c' : tkK B n r.1.1 = 44 := of_decide_eq_true c
        rw [eb_k, if_pos c'] at htl
        rw [c]
        conv => whnf
        refine ⟨fun r' M' => r' = none ∧ Un wMe Mc M' ∧ PsM M' B n (tkS B n 44 r.1), c_MD_goesOn Ω Mc B n r.1 _ (by omega) P5 (fun M' a b => ⟨rfl, a, by unfold tkS; rw [if_pos c']; exact b⟩), trivial, ?_⟩
        rintro r' M6 ⟨rfl, U6, P6⟩
        conv => whnf
        cases ht : tkS B n 44 r.1 with
        | error f0 =>
          rw [ht] at P6 htl
          exact ms_out (Or.inr ⟨f0, rfl⟩) P6 (hN M6 _ _ (U5.trans (U6.mono wSs_me)) (by rw [← htl]; exact P6) (fun r hr => by rw [← htl] at hr; cases hr))
        | ok s' =>
          rw [ht] at P6 htl
          refine ih (ns + 1) s' r.2 M6 _ (by omega) (U5.trans (U6.mono wSs_me)) P6 (fun hlt => hZ (L5 r rfl ((tkS_mo ht).1.2 hlt))) ((Gx r rfl).1.me (U6.mono wMn_me)) (fun hlt => ((Gx r rfl).2 ((tkS_mo ht).1.2 hlt)).mx (U6.mono wMn_me)) ((U6.I rfl).trans c86) htl
