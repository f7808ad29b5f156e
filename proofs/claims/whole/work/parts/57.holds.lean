/-! BARS, III: the class's holds and its first bar -/
theorem c_isComp (Ω : Om) (M : Mem) (v : Int32) (K : Ka) (h : K (some (vI (bI (inR 4 7 v)))) M) : CallS Ω true m_Tokens_isComparison [vI v] M K := by
  refine call_go (hJL rfl) (Nat.le_of_ble_eq_true rfl) (go_wp ok_Tokens_isComparison [] 250 _ _ _ _ _ _ ?_)
  refine And.intro (fun a => ?_) (fun a => And.intro (fun b => ?_) (fun b => ?_))
  · rw [inR_l a] at h; exact ⟨Or.inl rfl, h⟩
  · rw [inR_r b] at h; exact ⟨Or.inl rfl, h⟩
  · rw [inR_m a b] at h; exact ⟨Or.inr rfl, h⟩
theorem c_isVar (Ω : Om) (M : Mem) (v : Int32) (K : Ka) (h : K (some (vI (bI (inR 214 221 v)))) M) : CallS Ω true m_Tokens_isVariable [vI v] M K := by
  refine call_go (hJL rfl) (Nat.le_of_ble_eq_true rfl) (go_wp ok_Tokens_isVariable [] 250 _ _ _ _ _ _ ?_)
  refine And.intro (fun a => ?_) (fun a => And.intro (fun b => ?_) (fun b => ?_))
  · rw [inR_l a] at h; exact ⟨Or.inl rfl, h⟩
  · rw [inR_r b] at h; exact ⟨Or.inl rfl, h⟩
  · rw [inR_m a b] at h; exact ⟨Or.inr rfl, h⟩
def evO (vs : Nat → Int32) (cs : List Cd) (o : Option (List Int32)) : Option (List Int32) := match o with
  | some S => evc vs cs S
  | none => none
theorem evO_c {vs : Nat → Int32} {c : Cd} {cs : List Cd} {o : Option (List Int32)} : evO vs (c :: cs) o = evO vs cs (obS vs c o) := by
  cases o with
  | none => rfl
  | some S =>
    show (match stS vs c S with | some S' => evc vs cs S' | none => none) = evO vs cs (stS vs c S)
    cases stS vs c S <;> rfl
/-- a bar of the class, while it is asked -/
def HoC (M : Mem) (t b en : Nat) (vs : Nat → Int32) : Prop := b < 8 ∧ en ≤ 500 ∧ mI M 15 t b = nI en ∧ ∀ j, j < 8 → mI M 16 t j = vs j
theorem HoC.un {M M' : Mem} {t b en : Nat} {vs : Nat → Int32} (h : HoC M t b en vs) (hU : Un (wBr t) M M') : HoC M' t b en vs := ⟨h.1, h.2.1, (hU.I rfl).trans h.2.2.1, fun j hj => (hU.I rfl).trans (h.2.2.2 j hj)⟩
theorem SpC.un' {M M' : Mem} {t u : Nat} (hU : Un (wBr u) M M') {xs : List (Int32 × Int32)} {q : Nat} (h : SpC M t q xs) : SpC M' t q xs := SpC.un hU (fun _ _ => rfl) (fun _ _ => rfl) h
theorem ho_inc {Ω : Om} {K : Ka} {t q : Nat} {b any all : Int32} {x : Vl} {y : Option Vl} {M : Mem} (h : GoS Ω true m_Bars_holds K 44 [some (vR (some (0, t))), some (vI b), some (vI any), some (vI all), some (vI (nI (q + 1))), some x, y] [] M 0 0) : GoS Ω true m_Bars_holds K 220 [some (vR (some (0, t))), some (vI b), some (vI any), some (vI all), some (vI (nI q)), some x, y] [] M 0 0 := by
  refine go_wp ok_Bars_holds [44] 250 _ _ _ _ _ _ ?_
  conv => whnf
  rw [← nI_1] at h
  exact h
theorem lp_cd {Ω : Om} {K : Ka} {t b en : Nat} {vs : Nat → Int32} {any all : Int32} : ∀ (cs : List Cd) (q d e : Nat) (M2 : Mem) (o : Option (List Int32)) (r5 r6 : Option Vl), d ≤ 18 → wfc 18 cs d e → SpC M2 t q (cs.map wdC) → StC M2 t d o → HoC M2 t b en vs → q + cs.length ≤ en →
    (∀ (M' : Mem) (r5 r6 : Option Vl), Un (wBr t) M2 M' → StC M' t e (evO vs cs o) → GoS Ω true m_Bars_holds K 44 [some (vR (some (0, t))), some (vI (nI b)), some (vI any), some (vI all), some (vI (nI (q + cs.length))), r5, r6] [] M' 0 0) →
    GoS Ω true m_Bars_holds K 44 [some (vR (some (0, t))), some (vI (nI b)), some (vI any), some (vI all), some (vI (nI q)), r5, r6] [] M2 0 0 := by
  intro cs
  induction cs with
  | nil =>
    intro q d e M2 o r5 r6 hd hw hsp hS hH hq hN
    cases hw
    refine hN M2 r5 r6 Un.rfl ?_
    cases o <;> exact hS
  | cons c cs ih =>
    intro q d e M2 o r5 r6 hd hw hsp hS hH hq hN
    obtain ⟨⟨s1, s2⟩, hsp2⟩ := hsp
    obtain ⟨hb8, hen, h15, hvs⟩ := id hH
    have hlen : (c :: cs).length = cs.length + 1 := rfl
    rw [hlen] at hq hN
    have go : ∀ (M' : Mem) (d' : Nat) (x : Vl), d' ≤ 18 → wfc 18 cs d' e → Un (wBr t) M2 M' → StC M' t d' (obS vs c o) → GoS Ω true m_Bars_holds K 220 [some (vR (some (0, t))), some (vI (nI b)), some (vI any), some (vI all), some (vI (nI q)), some x, r6] [] M' 0 0 := by
      intro M' d' x hd' hw' hU' hS'
      refine ho_inc (ih (q + 1) d' e M' _ _ _ hd' hw' (hsp2.un' hU') hS' (hH.un hU') (by omega) (fun M3 r5 r6 hU3 hS3 => ?_))
      have := hN M3 r5 r6 (hU'.trans hU3) (by rw [evO_c]; exact hS3)
      rw [show q + 1 + cs.length = q + (cs.length + 1) by omega]
      exact this
    refine go_wp ok_Bars_holds [220] 250 _ _ _ _ _ _ ?_
    conv => whnf
    refine And.intro (vp_in_nI (by omega) (by decide)) ?_
    rw [nI_clamp (by omega), h15]
    refine And.intro (fun a => ?_) (fun _ => And.intro (fun a => ?_) (fun _ => ?_))
    · rw [nI_leI (by omega) (by omega)] at a; omega
    · exact absurd a (nI_ge (b := 500) (by omega) (by decide))
    conv => whnf
    refine And.intro (vp_in_nI (by omega) (by decide)) ?_
    rw [nI_clamp (by omega), s1]
    rcases hw with ⟨c2, cv, cd, hw⟩ | ⟨c2, c5, cd, hw⟩
    · by_cases c0 : c.1 = 0
      · have e1 : (wdC c).1 = 3 := by rw [wdC, if_pos c0]
        have e2 : (wdC c).2 = c.2 := by rw [wdC, if_pos c0]
        have ob : obS vs c o = ocS c.2 o := by
          cases o with
          | none => rfl
          | some S => show stS vs c S = _; unfold stS; exact if_pos c0
        rw [e1] at s1 ⊢
        rw [e2] at s2
        refine And.intro (fun _ => ?_) (fun a => absurd a (by decide))
        conv => whnf
        refine cl_use (fun K h => c_isComp Ω M2 3 K h) trivial ?_
        refine And.intro (fun _ => ?_) (fun a => absurd (show bI (inR 4 7 3) = 0 by decide) a)
        conv => whnf
        refine cl_use (fun K h => c_isVar Ω M2 3 K h) trivial ?_
        refine And.intro (fun _ => ?_) (fun a => absurd (show bI (inR 214 221 3) = 0 by decide) a)
        refine And.intro (fun a => absurd rfl a) (fun _ => ?_)
        conv => whnf
        refine And.intro (vp_in_nI (by omega) (by decide)) ?_
        rw [nI_clamp (by omega), s2]
        refine cl_use (fun K h => c_push Ω M2 t d c.2 K (by omega) hS.1 h) trivial ?_
        conv => whnf
        refine go _ (d + 1) (vI 3) cd hw ((Un.rfl.pI wBr_17).pI wBr_7) (by
          rw [ob]
          refine hS.push ?_ ?_ ?_ (fun j hj => ?_)
          · rw [mI_sI, if_pos ⟨rfl, rfl, rfl⟩]
          · rw [mI_sI, if_neg (fun q => absurd q.2.2 (by decide)), mI_sI, if_neg (fun q => absurd q.1 (by decide))]
          · rw [mI_sI, if_neg (fun q => absurd q.1 (by decide)), mI_sI, if_pos ⟨rfl, rfl, rfl⟩]
          · rw [mI_sI, if_neg (fun q => absurd q.1 (by decide)), mI_sI, if_neg (fun q => by omega)])
      · have c1 : c.1 = 1 := by omega
        obtain ⟨j, hj, ej⟩ := cv c1
        have e1 : (wdC c).1 = nI (214 + j) := by rw [wdC, if_neg c0, if_pos c1, ej, nI_clamp (by omega)]
        have e2 : (wdC c).2 = nI j := by rw [wdC, if_neg c0, if_pos c1, ej]
        have ob : obS vs c o = ocS (vs j) o := by
          cases o with
          | none => rfl
          | some S => show stS vs c S = _; unfold stS; rw [if_neg c0, if_pos c1, ej, nI_clamp (by omega)]; rfl
        rw [e1] at s1 ⊢
        rw [e2] at s2
        have k1 : bI (inR 4 7 (nI (214 + j))) = 0 := by rw [inR_r (show (7 : Int32) < nI (214 + j) from nI_lt (a := 7) (by omega) (by omega))]; rfl
        have k2 : bI (inR 214 221 (nI (214 + j))) = 1 := by rw [show inR 214 221 (nI (214 + j)) = true from inR_t.mpr ⟨nI_le (a := 214) (b := 214 + j) (by omega) (by omega), nI_le (a := 214 + j) (b := 221) (by omega) (by omega)⟩]; rfl
        refine And.intro (fun _ => ?_) (fun a => ?_)
        · conv => whnf
          refine cl_use (fun K h => c_isComp Ω M2 _ K h) trivial ?_
          refine And.intro (fun _ => ?_) (fun a => absurd k1 a)
          conv => whnf
          refine cl_use (fun K h => c_isVar Ω M2 _ K h) trivial ?_
          refine And.intro (fun a => absurd (k2.symm.trans a) (by decide)) (fun _ => ?_)
          conv => whnf
          refine And.intro (vp_in_nI (by omega) (by decide)) ?_
          rw [nI_clamp (by omega), s2]
          conv => whnf
          rw [pk_andN (n := j) (by omega) (m := 7) 3 rfl, Nat.mod_eq_of_lt (show j < 2 ^ 3 from hj)]
          refine And.intro (vp_in_nI (by omega) (by decide)) ?_
          rw [nI_clamp (by omega), hvs j hj]
          refine cl_use (fun K h => c_push Ω M2 t d (vs j) K (by omega) hS.1 h) trivial ?_
          conv => whnf
          refine go _ (d + 1) _ cd hw ((Un.rfl.pI wBr_17).pI wBr_7) (by
            rw [ob]
            refine hS.push ?_ ?_ ?_ (fun j hj => ?_)
            · rw [mI_sI, if_pos ⟨rfl, rfl, rfl⟩]
            · rw [mI_sI, if_neg (fun q => absurd q.2.2 (by decide)), mI_sI, if_neg (fun q => absurd q.1 (by decide))]
            · rw [mI_sI, if_neg (fun q => absurd q.1 (by decide)), mI_sI, if_pos ⟨rfl, rfl, rfl⟩]
            · rw [mI_sI, if_neg (fun q => absurd q.1 (by decide)), mI_sI, if_neg (fun q => by omega)])
        · rw [show (211 : Int32) = nI 211 from rfl, nI_eq (by omega) (by omega)] at a; omega
    · have hw0 : ∀ x : Int32, x = (wdC c).1 → ¬ x = 211 ∧ bI (inR 4 7 x) = 0 ∧ bI (inR 214 221 x) = 0 ∧ ¬ x = 3 := by
        rintro x rfl
        obtain ⟨k, v⟩ := c
        rcases (show k = 2 ∨ k = 3 ∨ k = 4 ∨ k = 5 by simp at *; omega) with rfl | rfl | rfl | rfl
        · show ¬ (43 : Int32) = 211 ∧ bI (inR 4 7 43) = 0 ∧ bI (inR 214 221 43) = 0 ∧ ¬ (43 : Int32) = 3
          decide
        · show ¬ (45 : Int32) = 211 ∧ bI (inR 4 7 45) = 0 ∧ bI (inR 214 221 45) = 0 ∧ ¬ (45 : Int32) = 3
          decide
        · show ¬ (42 : Int32) = 211 ∧ bI (inR 4 7 42) = 0 ∧ bI (inR 214 221 42) = 0 ∧ ¬ (42 : Int32) = 3
          decide
        · show ¬ (47 : Int32) = 211 ∧ bI (inR 4 7 47) = 0 ∧ bI (inR 214 221 47) = 0 ∧ ¬ (47 : Int32) = 3
          decide
      obtain ⟨w1, w2, w3, w4⟩ := hw0 _ rfl
      refine And.intro (fun _ => ?_) (fun a => absurd a w1)
      conv => whnf
      refine cl_use (fun K h => c_isComp Ω M2 _ K h) trivial ?_
      refine And.intro (fun _ => ?_) (fun a => absurd w2 a)
      conv => whnf
      refine cl_use (fun K h => c_isVar Ω M2 _ K h) trivial ?_
      refine And.intro (fun _ => ?_) (fun a => absurd w3 a)
      refine And.intro (fun _ => ?_) (fun a => absurd a w4)
      conv => whnf
      refine ⟨fun r M' => r = none ∧ Un (wBr t) M2 M' ∧ StC M' t (d - 1) (obS vs c o), ?_, trivial, ?_⟩
      · obtain ⟨h, rfl⟩ : ∃ h, d = h + 2 := ⟨d - 2, by omega⟩
        exact c_reckon Ω M2 t h vs c o _ (by omega) ⟨c2, c5⟩ hS (fun M' a b => ⟨rfl, a, b⟩)
      · rintro r M' ⟨rfl, a, b⟩
        conv => whnf
        exact go M' (d - 1) _ (by omega) hw a b
def BOK (L : List Lt) : Prop := (∀ l, l ∈ L → LtOK l) ∧ ∃ l ls, L = l :: ls ∧ l.2.2.1 = true
/-- the steps of a bar in the class -/
def BrC (L : List Lt) : List (Int32 × Int32) := match L with
  | [] => []
  | l :: ls => bdC l ++ rwC ls
/-- all, together with what one comparison says -/
theorem ho_and {Ω : Om} {K : Ka} {t : Nat} {b any q : Int32} {a x : Bool} {y : Option Vl} {M : Mem} (h : GoS Ω true m_Bars_holds K 220 [some (vR (some (0, t))), some (vI b), some (vI any), some (vI (bI (a && x))), some (vI q), y, some (vI (bI x))] [] (sI M 0 t 8 0) 0 0) : GoS Ω true m_Bars_holds K 141 [some (vR (some (0, t))), some (vI b), some (vI any), some (vI (bI a)), some (vI q), y, some (vI (bI x))] [] M 0 0 := by
  refine go_wp ok_Bars_holds [220] 250 _ _ _ _ _ _ ?_
  conv => whnf
  cases a
  · refine And.intro (fun _ => ?_) (fun z => absurd rfl z)
    conv => whnf
    refine And.intro (Or.inl rfl) ?_
    exact h
  · refine And.intro (fun z => absurd z (by decide)) (fun _ => ?_)
    conv => whnf
    cases x
    · refine And.intro (fun _ => ?_) (fun z => absurd rfl z)
      conv => whnf
      refine And.intro (Or.inl rfl) ?_
      exact h
    · refine And.intro (fun z => absurd z (by decide)) (fun _ => ?_)
      conv => whnf
      refine And.intro (Or.inl rfl) ?_
      exact h
/-- one literal of the class -/
theorem lp_lt {Ω : Om} {K : Ka} {t b en : Nat} {vs : Nat → Int32} {any : Int32} (l : Lt) (hl : LtOK l) (q : Nat) (M2 : Mem) (all : Bool) (r5 r6 : Option Vl) (hsp : SpC M2 t q (bdC l)) (hS : StC M2 t 0 (some [])) (hH : HoC M2 t b en vs) (hq : q + (bdC l).length ≤ en)
    (hN : ∀ (M' : Mem) (r5 r6 : Option Vl), Un (wBr t) M2 M' → StC M' t 0 (some []) → GoS Ω true m_Bars_holds K 44 [some (vR (some (0, t))), some (vI (nI b)), some (vI any), some (vI (bI (all && ltS vs l))), some (vI (nI (q + (bdC l).length))), r5, r6] [] M' 0 0) :
    GoS Ω true m_Bars_holds K 44 [some (vR (some (0, t))), some (vI (nI b)), some (vI any), some (vI (bI all)), some (vI (nI q)), r5, r6] [] M2 0 0 := by
  obtain ⟨ls, w1, w2⟩ := hl
  have hlen : (bdC l).length = (l.2.2.2.1 ++ l.2.2.2.2).length + 1 := by rw [bdC, List.length_append, List.length_map]; rfl
  rw [hlen] at hq hN
  obtain ⟨h1, h2⟩ := SpC.app.mp hsp
  rw [List.length_map] at h2
  refine lp_cd (l.2.2.2.1 ++ l.2.2.2.2) q 0 2 M2 (some []) r5 r6 (by omega) (wfc_app (wfc_mono (by decide) w1) (wfc_up w2)) h1 hS hH (by omega) (fun M3 r5 r6 hU3 hS3 => ?_)
  have hH3 := hH.un hU3
  obtain ⟨hb8, hen, h15, hvs⟩ := id hH3
  obtain ⟨⟨s1, s2⟩, -⟩ := h2.un' hU3
  have s1 : mI M3 13 t (q + (l.2.2.2.1 ++ l.2.2.2.2).length) = nI (4 + l.1) := s1
  have s2 : mI M3 14 t (q + (l.2.2.2.1 ++ l.2.2.2.2).length) = bI l.2.1 := s2
  generalize hp : q + (l.2.2.2.1 ++ l.2.2.2.2).length = p at s1 s2 hN
  have hp2 : p + 1 ≤ en := by omega
  have ev : evO vs (l.2.2.2.1 ++ l.2.2.2.2) (some []) = if tbS vs l.2.2.2.1 = true ∨ tbS vs l.2.2.2.2 = true then none else some [tvS vs l.2.2.2.2, tvS vs l.2.2.2.1] := ev_two w1 w2
  have cp : cpO l.1 (evO vs (l.2.2.2.1 ++ l.2.2.2.2) (some [])) = (cmS l.1 (tvS vs l.2.2.2.1) (tvS vs l.2.2.2.2) && !(tbS vs l.2.2.2.1 || tbS vs l.2.2.2.2)) := by
    rw [ev]
    cases tbS vs l.2.2.2.1 <;> cases tbS vs l.2.2.2.2 <;> simp [cpO]
  refine go_wp ok_Bars_holds [141, 220] 250 _ _ _ _ _ _ ?_
  conv => whnf
  refine And.intro (vp_in_nI (by omega) (by decide)) ?_
  rw [nI_clamp (by omega), h15]
  refine And.intro (fun a => ?_) (fun _ => And.intro (fun a => ?_) (fun _ => ?_))
  · rw [nI_leI (by omega) (by omega)] at a; omega
  · exact absurd a (nI_ge (b := 500) (by omega) (by decide))
  conv => whnf
  refine And.intro (vp_in_nI (by omega) (by decide)) ?_
  rw [nI_clamp (by omega), s1]
  refine And.intro (fun _ => ?_) (fun a => ?_)
  · conv => whnf
    refine cl_use (fun K h => c_isComp Ω M3 _ K h) trivial ?_
    rw [show inR 4 7 (nI (4 + l.1)) = true from inR_t.mpr ⟨nI_le (a := 4) (b := 4 + l.1) (by omega) (by omega), nI_le (a := 4 + l.1) (b := 7) (by omega) (by omega)⟩]
    refine And.intro (fun a => absurd a (by decide)) (fun _ => ?_)
    conv => whnf
    refine ⟨fun r M' => r = some (vI (bI (cpO l.1 (evO vs (l.2.2.2.1 ++ l.2.2.2.2) (some []))))) ∧ Un (wBr t) M3 M' ∧ mI M' 0 t 7 = nI 0, c_compares Ω M3 t l.1 _ _ ls hS3 (fun M' a b => ⟨rfl, a, b⟩), trivial, ?_⟩
    rintro r M4 ⟨rfl, hU4, e7⟩
    conv => whnf
    refine And.intro (vp_in_nI (by omega) (by decide)) ?_
    rw [nI_clamp (by omega), (hU4.I (k := 14) rfl).trans s2, cp]
    have fin : ∀ x : Bool, x = ltS vs l → GoS Ω true m_Bars_holds K 141 [some (vR (some (0, t))), some (vI (nI b)), some (vI any), some (vI (bI all)), some (vI (nI p)), some (vI (nI (4 + l.1))), some (vI (bI x))] [] M4 0 0 := by
      rintro x rfl
      have := hN (sI M4 0 t 8 0) (some (vI (nI (4 + l.1)))) (some (vI (bI (ltS vs l)))) ((hU3.trans hU4).pI wBr_8) ⟨?_, ?_, fun S e => ?_⟩
      · refine ho_and (ho_inc ?_)
        rw [show p + 1 = q + ((l.2.2.2.1 ++ l.2.2.2.2).length + 1) by omega]
        exact this
      · rw [mI_sI, if_neg (fun q => absurd q.2.2 (by decide))]; exact e7
      · rw [mI_sI, if_pos ⟨rfl, rfl, rfl⟩]; rfl
      · cases e; exact ⟨rfl, fun k hk => absurd hk (Nat.not_lt_zero _)⟩
    generalize hx : (cmS l.1 (tvS vs l.2.2.2.1) (tvS vs l.2.2.2.2) && !(tbS vs l.2.2.2.1 || tbS vs l.2.2.2.2)) = x at cp
    have hlt : ltS vs l = (x != l.2.1) := by rw [ltS, hx]
    cases hnot : l.2.1 with
    | true =>
      rw [hnot] at hlt
      refine And.intro (fun a => absurd rfl a) (fun _ => ?_)
      conv => whnf
      refine And.intro (fun z => ?_) (fun z => ?_)
      · conv => whnf
        cases x
        · exact absurd z (by decide)
        · exact fin false hlt.symm
      · conv => whnf
        cases x
        · exact fin true hlt.symm
        · exact absurd rfl z
    | false =>
      rw [hnot] at hlt
      refine And.intro (fun _ => ?_) (fun a => absurd a (by decide))
      conv => whnf
      refine And.intro (fun z => ?_) (fun z => ?_)
      · conv => whnf
        cases x
        · exact fin false hlt.symm
        · exact absurd z (by decide)
      · conv => whnf
        cases x
        · exact absurd rfl z
        · exact fin true hlt.symm
  · rw [show (211 : Int32) = nI 211 from rfl, nI_eq (by omega) (by omega)] at a; omega
