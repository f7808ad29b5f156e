/-! BARS, IV: the class's holds whole, its first bar -/
theorem bI_or (a b : Bool) : bI (a || b) = if bI a = 0 then bI b else 1 := by cases a <;> rfl
theorem lp_lts {Ω : Om} {K : Ka} {t b en : Nat} {vs : Nat → Int32} : ∀ (ls : List Lt), (∀ l, l ∈ ls → LtOK l) → ∀ (q : Nat) (M2 : Mem) (any all : Bool) (r5 r6 : Option Vl), SpC M2 t q (rwC ls) → StC M2 t 0 (some []) → HoC M2 t b en vs → q + (rwC ls).length = en →
    (∀ M', Un (wBr t) M2 M' → K (some (vI (bI (any || hoS vs ls all)))) M') →
    GoS Ω true m_Bars_holds K 44 [some (vR (some (0, t))), some (vI (nI b)), some (vI (bI any)), some (vI (bI all)), some (vI (nI q)), r5, r6] [] M2 0 0 := by
  intro ls
  induction ls with
  | nil =>
    intro _ q M2 any all r5 r6 hsp hS hH hq hN
    obtain ⟨hb8, hen, h15, hvs⟩ := id hH
    have hq : q = en := hq
    subst hq
    have h := hN M2 Un.rfl
    refine go_wp ok_Bars_holds [] 250 _ _ _ _ _ _ ?_
    conv => whnf
    refine And.intro (vp_in_nI (by omega) (by decide)) ?_
    rw [nI_clamp (by omega), h15]
    refine And.intro (fun _ => ?_) (fun a => absurd (Int32.le_refl _) a)
    conv => whnf
    refine br_bn (fun c => ?_) (fun c => ?_)
    · conv => whnf
      rw [c, Bool.true_or] at h
      exact ⟨Or.inr rfl, h⟩
    · conv => whnf
      rw [c, Bool.false_or] at h
      refine br_bz (fun c => ?_) (fun c => ?_)
      · conv => whnf
        rw [hoS, c] at h
        exact ⟨Or.inl rfl, h⟩
      · conv => whnf
        rw [hoS, c] at h
        exact ⟨Or.inr rfl, h⟩
  | cons l ls ih =>
    intro hls q M2 any all r5 r6 hsp hS hH hq hN
    have hl := hls l List.mem_cons_self
    have hls2 := fun x hx => hls x (List.mem_cons_of_mem _ hx)
    have e : rwC (l :: ls) = orC l ++ (bdC l ++ rwC ls) := rfl
    rw [e] at hsp hq
    obtain ⟨p1, p2⟩ := SpC.app.mp hsp
    obtain ⟨p2, p3⟩ := SpC.app.mp p2
    have go : ∀ (M3 : Mem) (any' all' : Bool) (r5 r6 : Option Vl), Un (wBr t) M2 M3 → StC M3 t 0 (some []) → (any' || hoS vs ls (all' && ltS vs l)) = (any || hoS vs (l :: ls) all) → GoS Ω true m_Bars_holds K 44 [some (vR (some (0, t))), some (vI (nI b)), some (vI (bI any')), some (vI (bI all')), some (vI (nI (q + (orC l).length))), r5, r6] [] M3 0 0 := by
      intro M3 any' all' r5 r6 hU3 hS3 he
      rw [List.length_append, List.length_append] at hq
      refine lp_lt l hl _ M3 all' r5 r6 (p2.un' hU3) hS3 (hH.un hU3) (by omega) (fun M4 r5 r6 hU4 hS4 => ?_)
      refine ih hls2 _ M4 any' _ r5 r6 (p3.un' (hU3.trans hU4)) hS4 (hH.un (hU3.trans hU4)) (by omega) (fun M' hU' => ?_)
      rw [he]
      exact hN M' ((hU3.trans hU4).trans hU')
    cases hor : l.2.2.1 with
    | false =>
      have eo : orC l = [] := by rw [orC, hor]; rfl
      have := go M2 any all r5 r6 Un.rfl hS (by rw [hoS, hor]; simp)
      rw [eo] at this
      exact this
    | true =>
      have eo : orC l = [(211, 0)] := by rw [orC, hor]; rfl
      rw [eo] at go p1 hq
      obtain ⟨hb8, hen, h15, hvs⟩ := id hH
      have s1 : mI M2 13 t q = 211 := p1.1.1
      have hq2 : q + 1 ≤ en := by
        rw [List.length_append] at hq
        have : ([(211, 0)] : List (Int32 × Int32)).length = 1 := rfl
        omega
      refine go_wp ok_Bars_holds [220] 250 _ _ _ _ _ _ ?_
      conv => whnf
      refine And.intro (vp_in_nI (by omega) (by decide)) ?_
      rw [nI_clamp (by omega), h15]
      refine And.intro (fun a => ?_) (fun _ => And.intro (fun a => ?_) (fun _ => ?_))
      · rw [nI_leI (by omega) (by omega)] at a; omega
      · exact absurd a (nI_ge (b := 500) (by omega) (by decide))
      conv => whnf
      refine And.intro (vp_in_nI (by omega) (by decide)) ?_
      rw [nI_clamp (by omega), s1]
      refine And.intro (fun a => absurd rfl a) (fun _ => ?_)
      have fin : ∀ x : Bool, x = (any || all) → GoS Ω true m_Bars_holds K 220 [some (vR (some (0, t))), some (vI (nI b)), some (vI (bI x)), some (vI (bI true)), some (vI (nI q)), some (vI 211), r6] [] M2 0 0 := by
        rintro x rfl
        refine ho_inc (go M2 (any || all) true _ _ Un.rfl hS ?_)
        rw [hoS, hor]
        cases all <;> simp
      conv => whnf
      refine br_bn (fun c => ?_) (fun c => ?_)
      · conv => whnf
        exact fin true (by rw [c]; rfl)
      · conv => whnf
        refine br_bz (fun c2 => ?_) (fun c2 => ?_)
        · conv => whnf
          exact fin false (by rw [c, c2]; rfl)
        · conv => whnf
          exact fin true (by rw [c, c2]; rfl)
/-- a bar of the class spells L -/
def ClB (M : Mem) (t b : Nat) (L : List Lt) : Prop := ∃ s0, (b = 0 → s0 = 0) ∧ (∀ b', b = b' + 1 → mI M 15 t b' = nI s0) ∧ mI M 15 t b = nI (s0 + (BrC L).length) ∧ s0 + (BrC L).length ≤ 500 ∧ SpC M t s0 (BrC L)
theorem ClB.un {w : Nat → Nat → Nat → Bool} {M M' : Mem} {t b : Nat} {L : List Lt} (h : ClB M t b L) (hU : Un w M M') (hw : ∀ k i s, 13 ≤ k → k ≤ 15 → w k i s = false) : ClB M' t b L := by
  obtain ⟨s0, a, b, c, d, e⟩ := h
  exact ⟨s0, a, fun b' q => (hU.I (hw _ _ _ (by decide) (by decide))).trans (b b' q), (hU.I (hw _ _ _ (by decide) (by decide))).trans c, d, SpC.un hU (fun _ _ => hw _ _ _ (by decide) (by decide)) (fun _ _ => hw _ _ _ (by decide) (by decide)) e⟩
theorem c_holds (Ω : Om) (M : Mem) (t b : Nat) (L : List Lt) (vs : Nat → Int32) (K : Ka) (hb : b < 8) (hL : BOK L) (hB : ClB M t b L) (hv : ∀ j, j < 8 → mI M 16 t j = vs j) (hK : ∀ M', Un (wBr t) M M' → K (some (vI (bI (hoS vs L false)))) M') : CallS Ω true m_Bars_holds [vR (some (0, t)), vI (nI b)] M K := by
  obtain ⟨s0, b1, b2, b3, b4, b5⟩ := hB
  obtain ⟨hall, l, ls, rfl, hor⟩ := hL
  refine call_go (hJL rfl) (Nat.le_of_ble_eq_true rfl) (go_wp ok_Bars_holds [44] 250 _ _ _ _ _ _ ?_)
  refine And.intro (fun a => absurd a (nI_pos (by omega))) (fun _ => ?_)
  refine And.intro (fun _ => ?_) (fun a => absurd (show nI b < (8 : Int32) from nI_lt (b := 8) hb (by decide)) a)
  conv => whnf
  refine And.intro (Or.inl rfl) ?_
  conv => whnf
  generalize hM1 : sI (sI M 0 t 7 0) 0 t 8 0 = M1
  have hU1 : Un (wBr t) M M1 := by rw [← hM1]; exact (Un.rfl.pI wBr_7).pI wBr_8
  have hS1 : StC M1 t 0 (some []) := by
    rw [← hM1]
    refine ⟨?_, ?_, fun S e => ?_⟩
    · rw [mI_sI, if_neg (fun q => absurd q.2.2 (by decide)), mI_sI, if_pos ⟨rfl, rfl, rfl⟩]; rfl
    · rw [mI_sI, if_pos ⟨rfl, rfl, rfl⟩]; rfl
    · cases e; exact ⟨rfl, fun k hk => absurd hk (Nat.not_lt_zero _)⟩
  have hgo : GoS Ω true m_Bars_holds K 44 [some (vR (some (0, t))), some (vI (nI b)), some (vI (bI false)), some (vI (bI true)), some (vI (nI s0)), none, none] [] M1 0 0 := by
    have e : BrC (l :: ls) = bdC l ++ rwC ls := rfl
    rw [e] at b3 b4 b5
    obtain ⟨p1, p2⟩ := SpC.app.mp (b5.un' hU1)
    have hH : HoC M1 t b (s0 + (bdC l ++ rwC ls).length) vs := ⟨hb, b4, (hU1.I rfl).trans b3, fun j hj => (hU1.I rfl).trans (hv j hj)⟩
    rw [List.length_append] at hH b4
    refine lp_lt l (hall l List.mem_cons_self) s0 M1 true none none p1 hS1 hH (by omega) (fun M2 r5 r6 hU2 hS2 => ?_)
    refine lp_lts ls (fun x hx => hall x (List.mem_cons_of_mem _ hx)) _ M2 false _ r5 r6 (p2.un' hU2) hS2 (hH.un hU2) (by omega) (fun M' hU' => ?_)
    have := hK M' ((hU1.trans hU2).trans hU')
    rw [hoS, hor] at this
    simpa using this
  refine And.intro (fun a => ?_) (fun a => ?_)
  · conv => whnf
    have : ∃ b', b = b' + 1 := ⟨b - 1, by
      have : b ≠ 0 := fun q => by subst q; exact a rfl
      omega⟩
    obtain ⟨b', rfl⟩ := this
    rw [nI_pred]
    refine And.intro (vp_in_nI (by omega) (by decide)) ?_
    rw [nI_clamp (by omega), (hU1.I (k := 15) rfl).trans (b2 b' rfl)]
    exact hgo
  · conv => whnf
    have hb0 : b = 0 := by
      rw [show (0 : Int32) = nI 0 from rfl, nI_eq (by omega) (by omega)] at a; exact a
    rw [b1 hb0] at hgo
    exact hgo
/-- what a bar asks of a strip -/
def vrS (n : Nat) (v : Int32) (wd tw : Nat → Int32) (g d b a : Nat → Int64) (i : Nat) : Nat → Int32 := fun j => if j = 0 then (a i).toInt32 else if j = 1 then (g i).toInt32 else if j = 2 then wd i else if j = 3 then tw i else if j = 4 then nI i else if j = 5 then v else if j = 6 then (b i).toInt32 else (d i).toInt32
/-- the first bar that holds of a strip, from bar k on -/
def fbB (Ls : Nat → List Lt) (vs : Nat → Int32) : Nat → Nat → Option Nat
  | 0, _ => none
  | f + 1, k => if hoS vs (Ls k) false = true then some k else fbB Ls vs f (k + 1)
/-- the first strip and bar, from strip i on -/
def fbS (Ls : Nat → List Lt) (nb : Nat) (vr : Nat → Nat → Int32) : Nat → Nat → Option (Nat × Nat)
  | 0, _ => none
  | f + 1, i => match fbB Ls (vr i) nb 0 with
    | some k => some (i, k)
    | none => fbS Ls nb vr f (i + 1)
theorem fbB_lt {Ls : Nat → List Lt} {vs : Nat → Int32} : ∀ {f k r : Nat}, fbB Ls vs f k = some r → k ≤ r ∧ r < k + f := by
  intro f
  induction f with
  | zero => intro k r h; cases h
  | succ f ih =>
    intro k r h
    rw [fbB] at h
    split at h
    · cases h; omega
    · have := ih h; omega
theorem fbS_lt {Ls : Nat → List Lt} {nb : Nat} {vr : Nat → Nat → Int32} : ∀ {f i a r : Nat}, fbS Ls nb vr f i = some (a, r) → (i ≤ a ∧ a < i + f) ∧ r < nb := by
  intro f
  induction f with
  | zero => intro i a r h; cases h
  | succ f ih =>
    intro i a r h
    rw [fbS] at h
    split at h
    next k hk =>
      cases h
      have := fbB_lt hk
      omega
    next hk => have := ih h; omega
def wFb (t k i s : Nat) : Bool := (Nat.beq k 16 && Nat.beq i t) || wBr t k i s
theorem wFb_br (t : Nat) : ∀ k i s, wFb t k i s = false → wBr t k i s = false := fun k i s h => (Bool.or_eq_false_iff.mp h).2
theorem wFb_16 {t s : Nat} : wFb t 16 t s = true := by simp [wFb, nb_d]
def fcA (o : Option (Nat × Nat)) : Int32 := match o with
  | some (i, k) => nI (8 * i + k)
  | none => -1
theorem c_firstBarred (Ω : Om) (M : Mem) (t w f tk ti n nb : Nat) (v : Int32) (wd tw : Nat → Int32) (g d b a : Nat → Int64) (Ls : Nat → List Lt) (K : Ka) (hn : n ≤ 10) (hnb : nb ≤ 8)
    (ktw : kd (oN Ω) tk = .inr (0, 10)) (htk : ∀ s, wFb t tk ti s = false) (hs : mI M 2 f 4 = nI n) (hv : mI M 2 f 5 = v) (hF : ∀ i, i < n → mJ M 23 f i = g i ∧ mJ M 24 f i = d i ∧ mJ M 25 f i = b i ∧ mJ M 26 f i = a i)
    (hwd : ∀ i, i < n → mI M 57 (4 * t + w) i = wd i) (htw : ∀ i, i < n → mI M tk ti i = tw i) (hbc : mI M 0 t 4 = nI nb) (hB : ∀ k, k < nb → BOK (Ls k) ∧ ClB M t k (Ls k))
    (hK : ∀ M', Un (wFb t) M M' → K (some (vI (fcA (fbS Ls nb (vrS n v wd tw g d b a) n 0)))) M') :
    CallS Ω true m_Text_firstBarred [vR (some (7, t)), vR (some (10, 4 * t + w)), vR (some (2, f)), vR (some (tk, ti))] M K := by
  generalize hvr : vrS n v wd tw g d b a = vr at hK
  have lp : ∀ (m i : Nat) (M1 : Mem) (r5 r6 : Option Vl), i + m = n → Un (wFb t) M M1 → fbS Ls nb vr m i = fbS Ls nb vr n 0 → GoS Ω true m_Text_firstBarred K 3 [some (vR (some (7, t))), some (vR (some (10, 4 * t + w))), some (vR (some (2, f))), some (vR (some (tk, ti))), some (vI (nI i)), r5, r6] [] M1 0 0 := by
    intro m
    induction m with
    | zero =>
      intro i M1 r5 r6 hi hU he
      have hi : i = n := hi
      subst hi
      refine go_wp ok_Text_firstBarred [] 250 _ _ _ _ _ _ ?_
      refine And.intro (fun _ => ?_) (fun a => ?_)
      · conv => whnf
        have := hK M1 hU
        rw [← he] at this
        exact this
      · rw [(hU.I rfl).trans hs] at a; exact absurd (Int32.le_refl _) a
    | succ m ih =>
      intro i M1 r5 r6 hi hU he
      obtain ⟨q1, q2, q3, q4⟩ := hF i (by omega)
      refine go_wp ok_Text_firstBarred [121] 250 _ _ _ _ _ _ ?_
      refine And.intro (fun a => ?_) (fun _ => And.intro (fun a => absurd a (nI_ge (b := 10) (by omega) (by decide))) (fun _ => ?_))
      · rw [(hU.I rfl).trans hs, nI_leI (by omega) (by omega)] at a; omega
      conv => whnf
      rw [ktw]
      refine And.intro (fun a => absurd a (nI_ge (b := 10) (by omega) (by decide))) (fun _ => ?_)
      conv => whnf
      refine And.intro (vp_in_nI (by omega) (by decide)) ?_
      rw [nI_clamp (by omega), (hU.J rfl).trans q4]
      conv => whnf
      refine And.intro (vp_in_nI (n := 0) (by omega) (by decide)) ?_
      conv => whnf
      refine And.intro (vp_in_nI (by omega) (by decide)) ?_
      rw [nI_clamp (by omega), mJ_sI, (hU.J rfl).trans q1]
      conv => whnf
      refine And.intro (vp_in_nI (n := 1) (by omega) (by decide)) ?_
      conv => whnf
      refine And.intro (vp_in_nI (by omega) (by decide)) ?_
      rw [nI_clamp (by omega), mI_sI, if_neg (fun q => absurd q.1 (by decide)), mI_sI, if_neg (fun q => absurd q.1 (by decide)), (hU.I (k := 57) rfl).trans (hwd i (by omega))]
      conv => whnf
      refine And.intro (vp_in_nI (n := 2) (by omega) (by decide)) ?_
      conv => whnf
      rw [ktw]
      refine And.intro (vp_in_nI (by omega) (by decide)) ?_
      generalize hM2 : sI (sI (sI M1 16 t (Int32.toNatClampNeg 0) (a i).toInt32) 16 t (Int32.toNatClampNeg 1) (g i).toInt32) 16 t (Int32.toNatClampNeg 2) (wd i) = M2
      have hU2 : Un (wFb t) M M2 := by rw [← hM2]; exact ((hU.pI wFb_16).pI wFb_16).pI wFb_16
      have h160 : mI M2 16 t 0 = (a i).toInt32 ∧ mI M2 16 t 1 = (g i).toInt32 ∧ mI M2 16 t 2 = wd i := by
        rw [← hM2, show (Int32.toNatClampNeg 0) = 0 from rfl, show (Int32.toNatClampNeg 1) = 1 from rfl, show (Int32.toNatClampNeg 2) = 2 from rfl]
        simp [mI_sI]
      clear hM2
      rw [nI_clamp (by omega), (hU2.I (htk _)).trans (htw i (by omega))]
      conv => whnf
      refine And.intro (vp_in_nI (n := 3) (by omega) (by decide)) ?_
      conv => whnf
      refine And.intro (vp_in_nI (n := 4) (by omega) (by decide)) ?_
      conv => whnf
      rw [show ∀ x y : Int32, mI (sI (sI M2 16 t (Int32.toNatClampNeg 3) x) 16 t (Int32.toNatClampNeg 4) y) 2 f 5 = v from fun x y => (hU2.I (k := 2) rfl).trans hv]
      refine And.intro (vp_in_nI (n := 5) (by omega) (by decide)) ?_
      conv => whnf
      refine And.intro (vp_in_nI (by omega) (by decide)) ?_
      rw [nI_clamp (by omega), mJ_sI, mJ_sI, mJ_sI, (hU2.J (k := 25) rfl).trans q3]
      conv => whnf
      refine And.intro (vp_in_nI (n := 6) (by omega) (by decide)) ?_
      conv => whnf
      refine And.intro (vp_in_nI (by omega) (by decide)) ?_
      rw [nI_clamp (by omega), mJ_sI, mJ_sI, mJ_sI, mJ_sI, (hU2.J (k := 24) rfl).trans q2]
      conv => whnf
      refine And.intro (vp_in_nI (n := 7) (by omega) (by decide)) ?_
      generalize hM3 : sI (sI (sI (sI (sI M2 16 t (Int32.toNatClampNeg 3) (tw i)) 16 t (Int32.toNatClampNeg 4) (nI i)) 16 t (Int32.toNatClampNeg 5) v) 16 t (Int32.toNatClampNeg 6) (b i).toInt32) 16 t (Int32.toNatClampNeg 7) (d i).toInt32 = M3
      have hU3 : Un (wFb t) M M3 := by rw [← hM3]; exact ((((hU2.pI wFb_16).pI wFb_16).pI wFb_16).pI wFb_16).pI wFb_16
      have hvs : ∀ j, j < 8 → mI M3 16 t j = vr i j := by
        intro j hj
        rw [← hM3, show (Int32.toNatClampNeg 3) = 3 from rfl, show (Int32.toNatClampNeg 4) = 4 from rfl, show (Int32.toNatClampNeg 5) = 5 from rfl, show (Int32.toNatClampNeg 6) = 6 from rfl, show (Int32.toNatClampNeg 7) = 7 from rfl, ← hvr]
        rcases (show j = 0 ∨ j = 1 ∨ j = 2 ∨ j = 3 ∨ j = 4 ∨ j = 5 ∨ j = 6 ∨ j = 7 by omega) with rfl | rfl | rfl | rfl | rfl | rfl | rfl | rfl <;> simp [mI_sI, vrS, h160]
      clear hM3
      -- over the bars
      have lb : ∀ (m2 k : Nat) (M4 : Mem), k + m2 = nb → Un (wFb t) M M4 → (∀ j, j < 8 → mI M4 16 t j = vr i j) → fbB Ls (vr i) m2 k = fbB Ls (vr i) nb 0 → GoS Ω true m_Text_firstBarred K 121 [some (vR (some (7, t))), some (vR (some (10, 4 * t + w))), some (vR (some (2, f))), some (vR (some (tk, ti))), some (vI (nI i)), some (vR (some (16, t))), some (vI (nI k))] [] M4 0 0 := by
        intro m2
        induction m2 with
        | zero =>
          intro k M4 hk hU4 hv4 he4
          have hk : k = nb := hk
          subst hk
          refine go_wp ok_Text_firstBarred [3] 250 _ _ _ _ _ _ ?_
          refine And.intro (fun _ => ?_) (fun a => ?_)
          · conv => whnf
            have := ih (i + 1) M4 (some (vR (some (16, t)))) (some (vI (nI k))) (by omega) hU4 (by
              rw [← he, fbS]
              rw [fbB] at he4
              rw [← he4])
            rw [← nI_1] at this
            exact this
          · rw [(hU4.I (show wFb t 0 t 4 = false by simp [wFb, wBr, nb_d])).trans hbc] at a; exact absurd (Int32.le_refl _) a
        | succ m2 ih2 =>
          intro k M4 hk hU4 hv4 he4
          obtain ⟨hBO, hCB⟩ := hB k (by omega)
          have hCB4 : ClB M4 t k (Ls k) := hCB.un hU4 (fun k i s h1 h2 => by simp [wFb, wBr, nb_d]; omega)
          refine go_wp ok_Text_firstBarred [121] 250 _ _ _ _ _ _ ?_
          refine And.intro (fun a => ?_) (fun _ => ?_)
          · rw [(hU4.I (show wFb t 0 t 4 = false by simp [wFb, wBr, nb_d])).trans hbc, nI_leI (by omega) (by omega)] at a; omega
          conv => whnf
          refine ⟨fun r M' => r = some (vI (bI (hoS (vr i) (Ls k) false))) ∧ Un (wBr t) M4 M', c_holds Ω M4 t k (Ls k) (vr i) _ (by omega) hBO hCB4 hv4 (fun M' a => ⟨rfl, a⟩), trivial, ?_⟩
          rintro r M5 ⟨rfl, hU5⟩
          have hU5' := hU4.trans (hU5.mono (wFb_br t))
          conv => whnf
          refine br_bz (fun c => ?_) (fun c => ?_)
          · conv => whnf
            have := ih2 (k + 1) M5 (by omega) hU5' (fun j hj => (hU5.I rfl).trans (hv4 j hj)) (by
              rw [← he4, fbB, if_neg (by rw [c]; decide)])
            rw [← nI_1] at this
            exact this
          · conv => whnf
            have := hK M5 hU5'
            rw [fbB, if_pos c] at he4
            rw [← he, fbS, ← he4] at this
            rw [show (8 : Int32) = nI 8 from rfl, pk_mul, nI_add, Nat.mul_comm i 8]
            exact this
      exact lb nb 0 M3 (by omega) hU3 hvs rfl
  refine call_go (hJL rfl) (Nat.le_of_ble_eq_true rfl) (go_wp ok_Text_firstBarred [3] 250 _ _ _ _ _ _ ?_)
  exact lp n 0 M none none (by omega) Un.rfl rfl
