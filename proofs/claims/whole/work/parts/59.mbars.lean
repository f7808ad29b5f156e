/-! BARS, V: the model's -/
def SpM (M : Mem) : Nat → List Cd → Prop
  | _, [] => True
  | q, c :: cs => (mI M 107 0 q = nI c.1 ∧ mI M 108 0 q = c.2) ∧ SpM M (q + 1) cs
theorem SpM.un {w : Nat → Nat → Nat → Bool} {M M' : Mem} (hU : Un w M M') (h7 : ∀ s, w 107 0 s = false) (h8 : ∀ s, w 108 0 s = false) : ∀ {cs : List Cd} {q : Nat}, SpM M q cs → SpM M' q cs := by
  intro cs
  induction cs with
  | nil => intro q _; trivial
  | cons c cs ih =>
    intro q h
    exact ⟨⟨(hU.I (h7 _)).trans h.1.1, (hU.I (h8 _)).trans h.1.2⟩, ih h.2⟩
def wTm (k _i s : Nat) : Bool := Nat.beq k 111 || (Nat.beq k 12 && Nat.beq s 63)
def PlM (M : Mem) (d : Nat) (S : List Int32) : Prop := S.length = d ∧ ∀ k, k < d → mI M 111 0 (d - 1 - k) = S.getD k 0
def tpS (o : Option (List Int32)) : Int32 := match o with
  | some (a :: _) => a
  | _ => 0
theorem lp_tm {Ω : Om} {K : Ka} {from_ to : Nat} {vs : Nat → Int32} (hto : to ≤ 2600) : ∀ (cs : List Cd) (q d : Nat) (S : List Int32) (M2 : Mem) (r5 r6 r7 : Option Vl), d ≤ 17 → wfc 17 cs d 1 → SpM M2 q cs → PlM M2 d S → mI M2 12 0 63 = 0 → (∀ j, j < 8 → mI M2 110 0 j = vs j) → q + cs.length = to →
    (∀ M', Un wTm M2 M' → mI M' 12 0 63 = bI (evc vs cs S).isNone → K (some (vI (tpS (evc vs cs S)))) M') →
    GoS Ω true m_MD_termOf K 10 [some (vR (some (12, 0))), some (vI (nI from_)), some (vI (nI to)), some (vI (nI d)), some (vI (nI q)), r5, r6, r7] [] M2 0 0 := by
  intro cs
  induction cs with
  | nil =>
    intro q d S M2 r5 r6 r7 hd hw hsp hP hb hv hq hN
    have hw : d = 1 := hw
    subst hw
    have hq : q = to := hq
    subst hq
    refine go_wp ok_MD_termOf [] 250 _ _ _ _ _ _ ?_
    refine And.intro (fun _ => ?_) (fun a => absurd (Int32.le_refl _) a)
    conv => whnf
    refine And.intro (vp_in_nI (n := 0) (by omega) (by decide)) ?_
    have := hN M2 Un.rfl hb
    have e := hP.2 0 (by omega)
    match S, hP.1, e, this with
    | [a], _, e, this =>
      rw [show mI M2 111 0 (Int32.toNatClampNeg 0) = a from e]
      exact this
  | cons c cs ih =>
    intro q d S M2 r5 r6 r7 hd hw hsp hP hb hv hq hN
    obtain ⟨⟨s1, s2⟩, hsp2⟩ := hsp
    have hlen : (c :: cs).length = cs.length + 1 := rfl
    rw [hlen] at hq
    have go : ∀ (M' : Mem) (d' : Nat) (S' : List Int32) (x5 x6 x7 : Option Vl), d' ≤ 17 → wfc 17 cs d' 1 → Un wTm M2 M' → PlM M' d' S' → mI M' 12 0 63 = 0 → stS vs c S = some S' → GoS Ω true m_MD_termOf K 10 [some (vR (some (12, 0))), some (vI (nI from_)), some (vI (nI to)), some (vI (nI d')), some (vI (nI q + 1)), x5, x6, x7] [] M' 0 0 := by
      intro M' d' S' x5 x6 x7 hd' hw' hU' hP' hb' he
      have := ih (q + 1) d' S' M' x5 x6 x7 hd' hw' (hsp2.un hU' (fun _ => rfl) (fun _ => rfl)) hP' hb' (fun j hj => (hU'.I rfl).trans (hv j hj)) (by omega) (fun M3 hU3 hb3 => ?_)
      · rw [← nI_1] at this
        exact this
      · have e : evc vs (c :: cs) S = evc vs cs S' := by rw [evc, he]
        rw [← e] at hb3 ⊢
        exact hN M3 (hU'.trans hU3) hb3
    have pushP : ∀ x : Int32, PlM (sI M2 111 0 d x) (d + 1) (x :: S) := by
      intro x
      refine ⟨by simp [hP.1], fun k hk => ?_⟩
      cases k with
      | zero => rw [mI_sI, if_pos ⟨rfl, rfl, by omega⟩]; rfl
      | succ k =>
        rw [mI_sI, if_neg (fun q => by omega), show d + 1 - 1 - (k + 1) = d - 1 - k by omega, hP.2 k (by omega)]
        rfl
    refine go_wp ok_MD_termOf [10, 109] 250 _ _ _ _ _ _ ?_
    refine And.intro (fun a => ?_) (fun _ => ?_)
    · rw [nI_leI (by omega) (by omega)] at a; omega
    conv => whnf
    refine And.intro (vp_in_nI (by omega) (by decide)) ?_
    rw [nI_clamp (by omega), s1]
    rcases hw with ⟨c2, cv, cd, hw⟩ | ⟨c2, c5, cd, hw⟩
    · refine And.intro (fun a => ?_) (fun _ => ?_)
      · rw [show (2 : Int32) = nI 2 from rfl, nI_leI (by omega) (by omega)] at a; omega
      conv => whnf
      by_cases c0 : c.1 = 0
      · have e1 : stS vs c S = some (c.2 :: S) := by unfold stS; exact if_pos c0
        rw [c0]
        refine And.intro (fun a => absurd rfl a) (fun _ => ?_)
        conv => whnf
        refine And.intro (vp_in_nI (by omega) (by decide)) ?_
        conv => whnf
        refine And.intro (vp_in_nI (by omega) (by decide)) ?_
        rw [nI_clamp (by omega), nI_clamp (by omega), s2]
        have := go (sI M2 111 0 d c.2) (d + 1) _ (some (vI (nI 0))) r6 r7 cd hw (Un.rfl.pI rfl) (pushP c.2) hb e1
        rw [← nI_1 d] at this
        exact this
      · have c1 : c.1 = 1 := by omega
        obtain ⟨j, hj, ej⟩ := cv c1
        have e1 : stS vs c S = some (vs j :: S) := by unfold stS; rw [if_neg c0, if_pos c1, ej, nI_clamp (by omega)]
        rw [c1]
        refine And.intro (fun _ => ?_) (fun a => absurd a (by decide))
        conv => whnf
        refine And.intro (vp_in_nI (by omega) (by decide)) ?_
        conv => whnf
        rw [nI_clamp (show q < 2 ^ 31 by omega), s2, ej]
        refine And.intro (vp_in_nI (by omega) (by decide)) ?_
        conv => whnf
        refine And.intro (vp_in_nI (by omega) (by decide)) ?_
        rw [nI_clamp (by omega), nI_clamp (by omega), hv j hj]
        have := go (sI M2 111 0 d (vs j)) (d + 1) _ (some (vI (nI 1))) r6 r7 cd hw (Un.rfl.pI rfl) (pushP (vs j)) hb e1
        rw [← nI_1 d] at this
        exact this
    · have c0 : ¬ c.1 = 0 := by omega
      have c1 : ¬ c.1 = 1 := by omega
      obtain ⟨h, rfl⟩ : ∃ h, d = h + 2 := ⟨d - 2, by omega⟩
      match S, hP, pushP with
      | y :: x :: S', hP, pushP =>
        have ey : mI M2 111 0 (h + 1) = y := hP.2 0 (by omega)
        have ex : mI M2 111 0 h = x := hP.2 1 (by omega)
        have e1 : stS vs c (y :: x :: S') = if c.1 = 5 ∧ y = 0 then none else some (opS c.1 x y :: S') := by unfold stS; rw [if_neg c0, if_neg c1]
        refine And.intro (fun _ => ?_) (fun a => ?_)
        · conv => whnf
          rw [show nI (h + 2) + (-1) = nI (h + 1) from pk_m1 (h + 1)]
          conv => whnf
          rw [nI_pred]
          refine And.intro (vp_in_nI (by omega) (by decide)) ?_
          conv => whnf
          refine And.intro (vp_in_nI (by omega) (by decide)) ?_
          rw [nI_clamp (by omega), nI_clamp (by omega), ex, ey]
          have fin : ¬ (c.1 = 5 ∧ y = 0) → ∀ z : Int32, z = opS c.1 x y → GoS Ω true m_MD_termOf K 10 [some (vR (some (12, 0))), some (vI (nI from_)), some (vI (nI to)), some (vI (nI (h + 1))), some (vI (nI q + 1)), some (vI (nI c.1)), some (vI x), some (vI y)] [] (sI M2 111 0 h z) 0 0 := by
            rintro hz z rfl
            refine go (sI M2 111 0 h (opS c.1 x y)) (h + 1) (opS c.1 x y :: S') _ _ _ (by omega) hw (Un.rfl.pI rfl) ⟨?_, fun k hk => ?_⟩ hb (by rw [e1, if_neg hz])
            · have := hP.1; simp at this ⊢; omega
            · cases k with
              | zero => rw [mI_sI, if_pos ⟨rfl, rfl, by omega⟩]; rfl
              | succ k =>
                rw [mI_sI, if_neg (fun q => by omega), show h + 1 - 1 - (k + 1) = h + 2 - 1 - (k + 2) by omega, hP.2 (k + 2) (by omega)]
                rfl
          have store : ¬ (c.1 = 5 ∧ y = 0) → GoS Ω true m_MD_termOf K 109 [some (vR (some (12, 0))), some (vI (nI from_)), some (vI (nI to)), some (vI (nI (h + 1))), some (vI (nI q)), some (vI (nI c.1)), some (vI x), some (vI y)] [] M2 0 0 := by
            intro hz
            have fin := fin hz
            refine go_wp ok_MD_termOf [10] 250 _ _ _ _ _ _ ?_
            conv => whnf
            rw [nI_pred]
            refine And.intro (fun a2 => ?_) (fun a2 => ?_)
            · conv => whnf
              rw [show (2 : Int32) = nI 2 from rfl, nI_eq (by omega) (by omega)] at a2
              refine And.intro (fun a3 => ?_) (fun a3 => ?_)
              · conv => whnf
                rw [show (3 : Int32) = nI 3 from rfl, nI_eq (by omega) (by omega)] at a3
                refine And.intro (fun a4 => ?_) (fun a4 => ?_)
                · conv => whnf
                  rw [show (4 : Int32) = nI 4 from rfl, nI_eq (by omega) (by omega)] at a4
                  refine And.intro (fun z => hz ⟨by omega, z⟩) ?_
                  conv => whnf
                  refine And.intro (vp_in_nI (by omega) (by decide)) ?_
                  rw [nI_clamp (by omega)]
                  exact fin _ (by rw [opS, if_neg a2, if_neg a3, if_neg a4])
                · conv => whnf
                  rw [show (4 : Int32) = nI 4 from rfl, nI_eq (by omega) (by omega)] at a4
                  refine And.intro (vp_in_nI (by omega) (by decide)) ?_
                  rw [nI_clamp (by omega)]
                  exact fin _ (by rw [opS, if_neg a2, if_neg a3, if_pos a4])
              · conv => whnf
                rw [show (3 : Int32) = nI 3 from rfl, nI_eq (by omega) (by omega)] at a3
                refine And.intro (vp_in_nI (by omega) (by decide)) ?_
                rw [nI_clamp (by omega)]
                exact fin _ (by rw [opS, if_neg a2, if_pos a3])
            · conv => whnf
              rw [show (2 : Int32) = nI 2 from rfl, nI_eq (by omega) (by omega)] at a2
              refine And.intro (vp_in_nI (by omega) (by decide)) ?_
              rw [nI_clamp (by omega)]
              exact fin _ (by rw [opS, if_pos a2])
          refine And.intro (fun a5 => ?_) (fun a5 => ?_)
          · exact store (fun z => a5 (by rw [z.1]; rfl))
          · rw [show (5 : Int32) = nI 5 from rfl, nI_eq (by omega) (by omega)] at a5
            refine And.intro (fun z => store (fun q => z q.2)) (fun z => ?_)
            conv => whnf
            refine And.intro (Or.inr rfl) ?_
            conv => whnf
            have e : evc vs (c :: cs) (y :: x :: S') = none := by rw [evc, e1, if_pos ⟨a5, z⟩]
            have := hN (sI M2 12 0 63 1) (Un.rfl.pI rfl) (by rw [mI_sI, if_pos ⟨rfl, rfl, rfl⟩, e]; rfl)
            rw [e] at this
            exact this
        · rw [show (2 : Int32) = nI 2 from rfl, nI_leI (by omega) (by omega)] at a; omega
theorem c_termOf (Ω : Om) (M : Mem) (q : Nat) (cs : List Cd) (vs : Nat → Int32) (K : Ka) (hq : q + cs.length ≤ 2600) (hw : wfc 17 cs 0 1) (hsp : SpM M q cs) (hv : ∀ j, j < 8 → mI M 110 0 j = vs j) (hK : ∀ M', Un wTm M M' → mI M' 12 0 63 = bI (tbS vs cs) → K (some (vI (tvS vs cs))) M') : CallS Ω true m_MD_termOf [vR (some (12, 0)), vI (nI q), vI (nI (q + cs.length))] M K := by
  refine call_go (hJL rfl) (Nat.le_of_ble_eq_true rfl) (go_wp ok_MD_termOf [10] 250 _ _ _ _ _ _ ?_)
  refine And.intro (Or.inl rfl) ?_
  conv => whnf
  have hU : Un wTm M (sI M 12 0 63 0) := Un.rfl.pI rfl
  exact lp_tm (to := q + cs.length) hq cs q 0 [] (sI M 12 0 63 0) none none none (by omega) hw (hsp.un hU (fun _ => rfl) (fun _ => rfl)) ⟨rfl, fun k hk => absurd hk (Nat.not_lt_zero _)⟩ (by rw [mI_sI, if_pos ⟨rfl, rfl, rfl⟩]) hv rfl (fun M' hU' hb => hK M' (hU.trans hU') hb)
/-- a literal in the model -/
def LitM (M : Mem) (f : Nat) (l : Lt) : Prop := mI M 101 0 f = nI l.1 ∧ mI M 102 0 f = bI l.2.1 ∧ mI M 103 0 f = bI l.2.2.1 ∧ ∃ a, mI M 104 0 f = nI a ∧ mI M 105 0 f = nI (a + l.2.2.2.1.length) ∧ mI M 106 0 f = nI (a + l.2.2.2.1.length + l.2.2.2.2.length) ∧ a + l.2.2.2.1.length + l.2.2.2.2.length ≤ 2600 ∧ SpM M a l.2.2.2.1 ∧ SpM M (a + l.2.2.2.1.length) l.2.2.2.2
theorem LitM.un {w : Nat → Nat → Nat → Bool} {M M' : Mem} {f : Nat} {l : Lt} (h : LitM M f l) (hU : Un w M M') (hw : ∀ k s, 99 ≤ k → k ≤ 108 → w k 0 s = false) : LitM M' f l := by
  obtain ⟨a1, a2, a3, a, b1, b2, b3, b4, b5, b6⟩ := h
  have z : ∀ k s, 99 ≤ k → k ≤ 108 → mI M' k 0 s = mI M k 0 s := fun k s h1 h2 => hU.I (hw k s h1 h2)
  exact ⟨(z _ _ (by decide) (by decide)).trans a1, (z _ _ (by decide) (by decide)).trans a2, (z _ _ (by decide) (by decide)).trans a3, a, (z _ _ (by decide) (by decide)).trans b1, (z _ _ (by decide) (by decide)).trans b2, (z _ _ (by decide) (by decide)).trans b3, b4, b5.un hU (fun s => hw _ _ (by decide) (by decide)) (fun s => hw _ _ (by decide) (by decide)), b6.un hU (fun s => hw _ _ (by decide) (by decide)) (fun s => hw _ _ (by decide) (by decide))⟩
theorem wTm_99 : ∀ (k s : Nat), 99 ≤ k → k ≤ 108 → wTm k 0 s = false := fun k s h1 h2 => by simp [wTm, nb_d]; omega
theorem c_isTrue (Ω : Om) (M : Mem) (f : Nat) (l : Lt) (vs : Nat → Int32) (K : Ka) (hf : f < 1000) (hl : LtOK l) (hL : LitM M f l) (hv : ∀ j, j < 8 → mI M 110 0 j = vs j) (hK : ∀ M', Un wTm M M' → K (some (vI (bI (ltS vs l)))) M') : CallS Ω true m_MD_isTrue [vR (some (12, 0)), vI (nI f)] M K := by
  obtain ⟨ls, w1, w2⟩ := hl
  obtain ⟨a1, a2, a3, a, b1, b2, b3, b4, b5, b6⟩ := id hL
  refine call_go (hJL rfl) (Nat.le_of_ble_eq_true rfl) (go_wp ok_MD_isTrue [56] 250 _ _ _ _ _ _ ?_)
  conv => whnf
  refine And.intro (vp_in_nI (by omega) (by decide)) ?_
  conv => whnf
  refine And.intro (vp_in_nI (by omega) (by decide)) ?_
  rw [nI_clamp (by omega), b1, b2]
  refine ⟨fun r M' => r = some (vI (tvS vs l.2.2.2.1)) ∧ Un wTm M M' ∧ mI M' 12 0 63 = bI (tbS vs l.2.2.2.1), c_termOf Ω M a l.2.2.2.1 vs _ (by omega) w1 b5 hv (fun M' a b => ⟨rfl, a, b⟩), trivial, ?_⟩
  rintro r M1 ⟨rfl, hU1, e1⟩
  have z : ∀ k s, 99 ≤ k → k ≤ 108 → mI M1 k 0 s = mI M k 0 s := fun k s h1 h2 => hU1.I (wTm_99 k s h1 h2)
  conv => whnf
  rw [e1]
  refine And.intro (vp_in_nI (by omega) (by decide)) ?_
  conv => whnf
  refine And.intro (vp_in_nI (by omega) (by decide)) ?_
  rw [nI_clamp (by omega), z 105 f (by decide) (by decide), z 106 f (by decide) (by decide), b2, b3]
  refine ⟨fun r M' => r = some (vI (tvS vs l.2.2.2.2)) ∧ Un wTm M1 M' ∧ mI M' 12 0 63 = bI (tbS vs l.2.2.2.2), c_termOf Ω M1 (a + l.2.2.2.1.length) l.2.2.2.2 vs _ (by omega) w2 (b6.un hU1 (fun _ => rfl) (fun _ => rfl)) (fun j hj => (hU1.I rfl).trans (hv j hj)) (fun M' a b => ⟨rfl, a, b⟩), trivial, ?_⟩
  rintro r M2 ⟨rfl, hU2, e2⟩
  have hU12 := hU1.trans hU2
  have z : ∀ k s, 99 ≤ k → k ≤ 108 → mI M2 k 0 s = mI M k 0 s := fun k s h1 h2 => hU12.I (wTm_99 k s h1 h2)
  have hK2 := hK M2 hU12
  -- behind the comparison
  have fin : ∀ (x br : Bool), x = cmS l.1 (tvS vs l.2.2.2.1) (tvS vs l.2.2.2.2) → br = (tbS vs l.2.2.2.1 || tbS vs l.2.2.2.2) → GoS Ω true m_MD_isTrue K 141 [some (vR (some (12, 0))), some (vI (nI f)), some (vI (tvS vs l.2.2.2.1)), some (vI (bI br)), some (vI (tvS vs l.2.2.2.2)), some (vI (bI x))] [] M2 0 0 := by
    intro x br hx hbr
    have hlt : ltS vs l = ((x && !br) != l.2.1) := by rw [ltS, hx, hbr]
    rw [hlt] at hK2
    have last : ∀ y : Bool, y = (x && !br) → GoS Ω true m_MD_isTrue K 155 [some (vR (some (12, 0))), some (vI (nI f)), some (vI (tvS vs l.2.2.2.1)), some (vI (bI br)), some (vI (tvS vs l.2.2.2.2)), some (vI (bI x))] [vI (bI y)] M2 0 0 := by
      rintro y hy
      rw [← hy] at hK2
      refine go_wp ok_MD_isTrue [] 250 _ _ _ _ _ _ ?_
      conv => whnf
      refine And.intro (vp_in_nI (by omega) (by decide)) ?_
      rw [nI_clamp (by omega), z 102 f (by decide) (by decide), a2]
      generalize l.2.1 = nt at hK2
      refine And.intro (fun q => ?_) (fun q => ?_)
      · conv => whnf
        refine And.intro (Or.inl rfl) ?_
        cases y <;> cases nt
        · exact hK2
        · exact absurd q (by decide)
        · exact absurd q (by decide)
        · exact hK2
      · conv => whnf
        refine And.intro (Or.inr rfl) ?_
        cases y <;> cases nt
        · exact absurd rfl q
        · exact hK2
        · exact hK2
        · exact absurd rfl q
    refine go_wp ok_MD_isTrue [155] 250 _ _ _ _ _ _ ?_
    conv => whnf
    refine br_bz (fun c => ?_) (fun c => ?_)
    · conv => whnf
      exact last false (by rw [c]; rfl)
    · conv => whnf
      refine br_bn (fun c2 => ?_) (fun c2 => ?_)
      · conv => whnf
        exact last false (by rw [c, c2]; rfl)
      · conv => whnf
        exact last true (by rw [c, c2]; rfl)
  have cmp : ∀ (br : Bool), br = (tbS vs l.2.2.2.1 || tbS vs l.2.2.2.2) → GoS Ω true m_MD_isTrue K 56 [some (vR (some (12, 0))), some (vI (nI f)), some (vI (tvS vs l.2.2.2.1)), some (vI (bI (tbS vs l.2.2.2.1))), some (vI (tvS vs l.2.2.2.2)), none] [vI (bI br)] M2 0 0 := by
    intro br hbr
    have fin := fun x hx => fin x br hx hbr
    generalize tvS vs l.2.2.2.1 = A at fin
    generalize tvS vs l.2.2.2.2 = B at fin
    have sort : mI M2 101 0 f = nI l.1 := (z 101 f (by decide) (by decide)).trans a1
    refine go_wp ok_MD_isTrue [141] 250 _ _ _ _ _ _ ?_
    conv => whnf
    refine And.intro (vp_in_nI (by omega) (by decide)) ?_
    rw [nI_clamp (by omega), sort]
    refine And.intro (fun k0 => ?_) (fun k0 => ?_)
    · rw [show (0 : Int32) = nI 0 from rfl, nI_eq (by omega) (by omega)] at k0
      conv => whnf
      refine And.intro (vp_in_nI (by omega) (by decide)) ?_
      rw [nI_clamp (by omega), sort]
      refine And.intro (fun k1 => ?_) (fun k1 => ?_)
      · rw [show (1 : Int32) = nI 1 from rfl, nI_eq (by omega) (by omega)] at k1
        conv => whnf
        refine And.intro (vp_in_nI (by omega) (by decide)) ?_
        rw [nI_clamp (by omega), sort]
        refine And.intro (fun k2 => ?_) (fun k2 => ?_)
        · rw [show (2 : Int32) = nI 2 from rfl, nI_eq (by omega) (by omega)] at k2
          conv => whnf
          refine And.intro (fun y => ?_) (fun y => ?_)
          · conv => whnf
            exact fin false (by rw [cmS, if_neg k0, if_neg k1, if_neg k2]; exact (decide_eq_false (Int32.not_le.mpr y)).symm)
          · conv => whnf
            exact fin true (by rw [cmS, if_neg k0, if_neg k1, if_neg k2]; exact (decide_eq_true (Int32.not_lt.mp y)).symm)
        · rw [show (2 : Int32) = nI 2 from rfl, nI_eq (by omega) (by omega)] at k2
          conv => whnf
          refine And.intro (fun y => ?_) (fun y => ?_)
          · conv => whnf
            exact fin false (by rw [cmS, if_neg k0, if_neg k1, if_pos k2]; exact (decide_eq_false (Int32.not_lt.mpr y)).symm)
          · conv => whnf
            exact fin true (by rw [cmS, if_neg k0, if_neg k1, if_pos k2]; exact (decide_eq_true (Int32.not_le.mp y)).symm)
      · rw [show (1 : Int32) = nI 1 from rfl, nI_eq (by omega) (by omega)] at k1
        conv => whnf
        refine And.intro (fun y => ?_) (fun y => ?_)
        · conv => whnf
          exact fin false (by rw [cmS, if_neg k0, if_pos k1, decide_eq_true y]; rfl)
        · conv => whnf
          exact fin true (by rw [cmS, if_neg k0, if_pos k1, decide_eq_false y]; rfl)
    · rw [show (0 : Int32) = nI 0 from rfl, nI_eq (by omega) (by omega)] at k0
      conv => whnf
      refine And.intro (fun y => ?_) (fun y => ?_)
      · conv => whnf
        exact fin false (by rw [cmS, if_pos k0, decide_eq_false y])
      · conv => whnf
        exact fin true (by rw [cmS, if_pos k0, decide_eq_true y])
  conv => whnf
  refine br_bn (fun c => ?_) (fun c => ?_)
  · conv => whnf
    exact cmp true (by rw [c]; rfl)
  · conv => whnf
    rw [e2]
    refine br_bz (fun c2 => ?_) (fun c2 => ?_)
    · conv => whnf
      exact cmp false (by rw [c, c2]; rfl)
    · conv => whnf
      exact cmp true (by rw [c, c2]; rfl)
