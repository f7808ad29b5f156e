/-! READ: the model's reader: a literal, III -/
set_option maxHeartbeats 4000000 in
theorem lt_37 {Ω : Om} {K : Ka} {M : Mem} {B : Nat → Nat} {n p cc lc l1 : Nat} {lt : Option (Nat × Nat)} {or_ not_ : Bool} {L : List Cd} {a4 a5 : Option Vl} (hp : p < 4) (hlc : lc < 200) (h : PsM M B n (.ok (l1, l1 - 1, lt))) (h12 : mI M 12 0 12 = 0) (hC : CdM M (520 * p + cc) L) (hcc : cc + L.length ≤ l1) (h48 : mI M 12 0 48 = nI (200 * p + lc))
    {tl : Except Fa (Nat × Lt)} (htl : (if 4 ≤ tkK B n l1 ∧ tkK B n l1 ≤ 7 then (if 500 ≤ l1 then .error (2, l1) else eb (ex B n (l1 + 1)) fun r => .ok (r.1, (tkK B n l1 - 4, not_, or_, L, r.2))) else .error (1, l1)) = tl)
    (hE : ∀ M' f, Un (wLt p cc lc) M M' → PsM M' B n (.error f) → tl = .error f → K none M')
    (hO : ∀ M' r d, Un (wLt p cc lc) M M' → PsM M' B n (.ok (r.1, r.1 - 1, lt)) → tl = .ok r → mI M' 12 0 12 = 0 → mI M' 12 0 48 = nI (200 * p + (lc + 1)) → mI M' 12 0 55 = nI (520 * p + (cc + d)) → LitU M' p (cc + d) (200 * p + lc) r.2 → cc + d ≤ r.1 → K none M') :
    GoS Ω true m_MD_literal K 37 [some (vR (some (12, 0))), some (vI (bI or_)), some (vI (bI not_)), some (vI (nI (520 * p + cc))), a4, a5] [] M 0 0 := by
  have hr : rch B n l1 := h.2.1.1
  have h5 : l1 ≤ 500 := hr.1
  have hlt := tkK_lt B n l1
  have hkd := tkK_kd B n l1
  have h13 := h.2.2.2.1
  have m1 := (mk_11 _ hlt hkd).1
  have mkv : mkK (tkK B n l1) < 222 := mkK_lt _ hlt
  refine go_wp ok_MD_literal [80, 85] 250 _ _ _ _ _ _ ?_
  refine And.intro (fun _ => ?_) (fun q => absurd (show mI M 12 0 13 ≤ 0 by rw [h13]; decide) q)
  conv => whnf
  rw [h.2.2.1]
  refine And.intro (vp_in_nI (by omega) (by decide)) ?_
  rw [nI_clamp (by omega), (h.1 l1 hr).1]
  conv => whnf
  refine And.intro (fun q => absurd h13 q) (fun _ => ?_)
  have bad : ¬ (4 ≤ tkK B n l1 ∧ tkK B n l1 ≤ 7) → ∀ (x : Int32), GoS Ω true m_MD_literal K 80 [some (vR (some (12, 0))), some (vI (bI or_)), some (vI (bI not_)), some (vI (nI (520 * p + cc))), some (vI x), a5] [] M 0 0 := fun c x => by
    rw [if_neg c] at htl
    refine go_wp ok_MD_literal [85] 250 _ _ _ _ _ _ ?_
    conv => whnf
    refine ⟨fun r M' => r = none ∧ Un wMe M M' ∧ PsM M' B n (.error (1, l1)), c_MD_fail Ω M B n 1 _ _ (Or.inl rfl) h (fun M' a b => ⟨rfl, a, b⟩), trivial, ?_⟩
    rintro r M1 ⟨rfl, U1, P1⟩
    conv => whnf
    exact lt_85e P1 (fun M' U' P' => hE M' _ ((U1.mono wLt_me).trans (U'.mono wLt_62)) P' htl.symm)
  by_cases c : 4 ≤ tkK B n l1 ∧ tkK B n l1 ≤ 7
  · have m2 := (mk_11 _ hlt hkd).2 c.1 c.2
    rw [if_pos c] at htl
    rw [show nI (mkK (tkK B n l1)) - 11 = nI (tkK B n l1 - 4) by
      rw [m2]
      refine (pk_sub (b := 11) (by omega)).trans ?_
      congr 1]
    refine And.intro (fun q => absurd q (nI_pos (by omega))) (fun _ => ?_)
    conv => whnf
    refine And.intro (fun _ => ?_) (fun q => absurd (show nI (tkK B n l1 - 4) ≤ nI 3 by rw [nI_leI (by omega) (by omega)]; omega) q)
    refine go_wp ok_MD_literal [89] 250 _ _ _ _ _ _ ?_
    conv => whnf
    refine ⟨fun r M' => r = none ∧ Un wMe M M' ∧ PsM M' B n (gnS (l1, l1 - 1, lt)), c_MD_goesOn Ω M B n (l1, l1 - 1, lt) _ (show 2 ≤ tkK B n l1 by omega) h (fun M' a b => ⟨rfl, a, b⟩), trivial, ?_⟩
    rintro r M1 ⟨rfl, U1, P1⟩
    conv => whnf
    unfold gnS at P1
    by_cases c5 : 500 ≤ l1
    · rw [if_pos (show 500 ≤ (l1, l1 - 1, lt).1 from c5)] at P1
      rw [if_pos c5] at htl
      exact lt_89e P1 (fun M' U' P' => hE M' _ ((U1.mono wLt_me).trans (U'.mono wLt_60)) P' htl.symm)
    · rw [if_neg (show ¬ 500 ≤ (l1, l1 - 1, lt).1 from c5)] at P1
      rw [if_neg c5] at htl
      refine lt_89 (hw := tkK B n l1 - 4) (lc := lc) hp hlc P1 ((U1.I rfl).trans h12) (hC.me U1) (show cc + L.length ≤ l1 + 1 by omega) ((U1.I rfl).trans h48) (fun M' f U' P' hf => ?_) (fun M' r U' P' hr j12 j48 j55 jL jc => ?_)
      · refine hE M' f ((U1.mono wLt_me).trans U') P' ?_
        rw [← htl, hf]
        rfl
      · refine hO M' (r.1, (tkK B n l1 - 4, not_, or_, L, r.2)) (L.length + r.2.length) ((U1.mono wLt_me).trans U') P' ?_ j12 j48 ?_ ?_ ?_
        · rw [← htl, hr]
          rfl
        · rw [j55, Nat.add_assoc cc]
        · rw [← Nat.add_assoc cc]; exact jL
        · rw [← Nat.add_assoc cc]; exact jc
  · have ti : (nI (mkK (tkK B n l1)) - 11).toInt = (mkK (tkK B n l1) : Int) - 11 := pk_sub_toInt (b := 11) (by omega) (by decide)
    refine And.intro (fun _ => bad c _) (fun q => ?_)
    have q : ¬ (nI (mkK (tkK B n l1)) - 11) < 0 := q
    rw [Int32.lt_iff_toInt_lt, ti] at q
    have e0 : (0 : Int32).toInt = 0 := rfl
    conv => whnf
    refine And.intro (fun q2 => ?_) (fun _ => bad c _)
    have q2 : (nI (mkK (tkK B n l1)) - 11) ≤ 3 := q2
    rw [Int32.le_iff_toInt_le, ti] at q2
    have e3 : (3 : Int32).toInt = 3 := rfl
    have := m1.mp (by omega)
    omega
theorem c_MD_literal (Ω : Om) (M : Mem) (B : Nat → Nat) (n p cc lc : Nat) (or_ : Bool) (s : Ps) (K : Ka) (hp : p < 4) (hlc : lc < 200) (h : PsM M B n (.ok s)) (h12 : mI M 12 0 12 = 0) (h55 : mI M 12 0 55 = nI (520 * p + cc)) (hcc : cc ≤ s.1) (h48 : mI M 12 0 48 = nI (200 * p + lc))
    (hE : ∀ M' f, Un (wLt p cc lc) M M' → PsM M' B n (.error f) → liT B n or_ s.1 = .error f → K none M')
    (hO : ∀ M' r d, Un (wLt p cc lc) M M' → PsM M' B n (.ok (r.1, r.1 - 1, s.2.2)) → liT B n or_ s.1 = .ok r → mI M' 12 0 12 = 0 → mI M' 12 0 48 = nI (200 * p + (lc + 1)) → mI M' 12 0 55 = nI (520 * p + (cc + d)) → LitU M' p (cc + d) (200 * p + lc) r.2 → cc + d ≤ r.1 → K none M') :
    CallS Ω true m_MD_literal [vR (some (12, 0)), vI (bI or_)] M K := by
  have hsp := h.2.1.2
  have h5 := h.2.1.1.1
  refine call_go (hJL rfl) (Nat.le_of_ble_eq_true rfl) (go_wp ok_MD_literal [2] 250 _ _ _ _ _ _ ?_)
  conv => whnf
  have es : (s : Ps) = (s.1, s.1 - 1, s.2.2) := by rw [← hsp]
  rw [es] at h
  have hmo : ∀ {f : Nat} {b : Bool} {a : Nat} {r : Nat × Bool}, ntS B n f b a = .ok r → a ≤ r.1 := by
    intro f
    induction f with
    | zero => intro b a r h; cases h
    | succ f ih =>
      intro b a r h
      rw [ntS] at h
      split at h
      · split at h
        · cases h
        · have := ih h; omega
      · cases h; exact Nat.le_refl _
  refine mnt_loop (M0 := M) (lt := s.2.2) (or_ := or_) (tl := ntS B n (501 - s.1) false s.1) (fun M' f b' U' P' hf => ?_) (fun M' a' b' U' P' ha => ?_) (501 - s.1) false s.1 M (by omega) Un.rfl h rfl
  · refine lt_28e P' (fun M2 U2 P2 => hE M2 f ((U'.mono wLt_me).trans (U2.mono wLt_62)) P2 ?_)
    unfold liT
    rw [hf]
    rfl
  · have ha5 := hmo ha
    refine go_wp ok_MD_literal [37] 250 _ _ _ _ _ _ ?_
    conv => whnf
    rw [(U'.I rfl).trans h55]
    refine ⟨fun r M2 => r = none ∧ Un (wEm p cc) M' M2 ∧ PsM M2 B n (eb (ex B n a') fun r => .ok (r.1, r.1 - 1, s.2.2)) ∧ (∀ r, ex B n a' = .ok r → mI M2 12 0 12 = 0 ∧ CdM M2 (520 * p + cc) r.2), c_MD_expression Ω M' B n p cc (a', a' - 1, s.2.2) _ hp P' ((U'.I rfl).trans h12) ((U'.I rfl).trans h55) (show cc ≤ a' by omega) (fun M2 a b c => ⟨rfl, a, b, c⟩), trivial, ?_⟩
    rintro r M2 ⟨rfl, U2, P2, G2⟩
    conv => whnf
    have V2 : Un (wLt p cc lc) M M2 := (U'.mono wLt_me).trans (U2.mono wLt_em)
    cases hX : ex B n a' with
    | error f =>
      rw [hX] at P2
      refine lt_37e P2 (fun M3 U3 P3 => hE M3 f (V2.trans (U3.mono wLt_62)) P3 ?_)
      unfold liT
      rw [ha, eb_k, hX]
      rfl
    | ok l =>
      rw [hX] at P2
      obtain ⟨j12, C2⟩ := G2 l hX
      have hl := ex_len hX
      have eq : liT B n or_ s.1 = (if 4 ≤ tkK B n l.1 ∧ tkK B n l.1 ≤ 7 then (if 500 ≤ l.1 then .error (2, l.1) else eb (ex B n (l.1 + 1)) fun r => .ok (r.1, (tkK B n l.1 - 4, b', or_, l.2, r.2))) else .error (1, l.1)) := by
        unfold liT
        rw [ha, eb_k, hX, eb_k]
      refine lt_37 (lc := lc) (tl := liT B n or_ s.1) hp hlc P2 j12 C2 (by omega) ((U2.I (by rw [Bool.eq_false_iff]; intro z; rw [wEm_is] at z; omega)).trans ((U'.I rfl).trans h48)) eq.symm (fun M3 f U3 P3 hf => hE M3 f (V2.trans U3) P3 hf) (fun M3 r d U3 P3 hr y1 y2 y3 y4 y5 => hO M3 r d (V2.trans U3) P3 hr y1 y2 y3 y4 y5)
