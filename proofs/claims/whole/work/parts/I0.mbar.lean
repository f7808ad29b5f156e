/-! READ: the model's reader: conditions, a bar told -/
def wBq (p b cc lc k _i s : Nat) : Bool := (Nat.beq k 12 && (Nat.ble 11 s && Nat.ble s 16 || (Nat.beq s 48 || (Nat.beq s 55 || (Nat.beq s 58 || Nat.beq s 60))))) || (Nat.beq k 109 || (((Nat.ble 98 k && Nat.ble k 100) && Nat.beq s (8 * p + b)) || ((Nat.beq k 97 && Nat.beq s p) || (((Nat.ble 101 k && Nat.ble k 106) && (Nat.ble (200 * p + lc) s && Nat.ble (s + 1) (200 * p + 200))) || ((Nat.beq k 107 || Nat.beq k 108) && (Nat.ble (520 * p + cc) s && Nat.ble (s + 1) (520 * p + 520)))))))
theorem wBq_is {p b cc lc k i s : Nat} : wBq p b cc lc k i s = true ↔ (k = 12 ∧ ((11 ≤ s ∧ s ≤ 16) ∨ s = 48 ∨ s = 55 ∨ s = 58 ∨ s = 60)) ∨ k = 109 ∨ ((98 ≤ k ∧ k ≤ 100) ∧ s = 8 * p + b) ∨ (k = 97 ∧ s = p) ∨ ((101 ≤ k ∧ k ≤ 106) ∧ 200 * p + lc ≤ s ∧ s + 1 ≤ 200 * p + 200) ∨ ((k = 107 ∨ k = 108) ∧ 520 * p + cc ≤ s ∧ s + 1 ≤ 520 * p + 520) := by
  simp [wBq, nb_d, nl_d]
theorem wBq_no {p b cc lc k i s : Nat} (h : ¬ ((k = 12 ∧ ((11 ≤ s ∧ s ≤ 16) ∨ s = 48 ∨ s = 55 ∨ s = 58 ∨ s = 60)) ∨ k = 109 ∨ ((98 ≤ k ∧ k ≤ 100) ∧ s = 8 * p + b) ∨ (k = 97 ∧ s = p) ∨ ((101 ≤ k ∧ k ≤ 106) ∧ 200 * p + lc ≤ s ∧ s + 1 ≤ 200 * p + 200) ∨ ((k = 107 ∨ k = 108) ∧ 520 * p + cc ≤ s ∧ s + 1 ≤ 520 * p + 520))) : wBq p b cc lc k i s = false := Bool.eq_false_iff.mpr (fun z => h (wBq_is.mp z))
def wBl (p cc lc k _i s : Nat) : Bool := (Nat.beq k 12 && (Nat.ble 11 s && Nat.ble s 16 || (Nat.beq s 48 || (Nat.beq s 55 || Nat.beq s 60)))) || (Nat.beq k 109 || (((Nat.ble 101 k && Nat.ble k 106) && (Nat.ble (200 * p + lc) s && Nat.ble (s + 1) (200 * p + 200))) || ((Nat.beq k 107 || Nat.beq k 108) && (Nat.ble (520 * p + cc) s && Nat.ble (s + 1) (520 * p + 520)))))
theorem wBl_is {p cc lc k i s : Nat} : wBl p cc lc k i s = true ↔ (k = 12 ∧ ((11 ≤ s ∧ s ≤ 16) ∨ s = 48 ∨ s = 55 ∨ s = 60)) ∨ k = 109 ∨ ((101 ≤ k ∧ k ≤ 106) ∧ 200 * p + lc ≤ s ∧ s + 1 ≤ 200 * p + 200) ∨ ((k = 107 ∨ k = 108) ∧ 520 * p + cc ≤ s ∧ s + 1 ≤ 520 * p + 520) := by
  simp [wBl, nb_d, nl_d]
theorem wBq_bl {p b cc lc : Nat} : ∀ k i s, wBq p b cc lc k i s = false → wBl p cc lc k i s = false := mono_of (fun k i s h => by
  rw [wBl_is] at h
  rw [wBq_is]
  omega)
theorem wBl_lt {p cc lc cc' lc' : Nat} (h1 : cc ≤ cc') (h2 : lc ≤ lc') (h3 : lc' < 200) : ∀ k i s, wBl p cc lc k i s = false → wLt p cc' lc' k i s = false := mono_of (fun k i s h => by
  have q : wEm p cc' k i s = true ∨ ((101 ≤ k ∧ k ≤ 106) ∧ s = 200 * p + lc') ∨ (k = 12 ∧ s = 48) := by
    unfold wLt at h
    rw [Bool.or_eq_true] at h
    rcases h with h | h
    · exact Or.inl h
    · simp [nb_d, nl_d] at h
      exact Or.inr h
  rw [wBl_is]
  rw [wEm_is] at q
  omega)
theorem wBl_me {p cc lc : Nat} : ∀ k i s, wBl p cc lc k i s = false → wMe k i s = false := mono_of (fun k i s h => by
  simp [wMe, nb_d, nl_d] at h
  rw [wBl_is]
  omega)
theorem wBq_me {p b cc lc : Nat} : ∀ k i s, wBq p b cc lc k i s = false → wMe k i s = false := mono_of (fun k i s h => by
  simp [wMe, nb_d, nl_d] at h
  rw [wBq_is]
  omega)
theorem wBq_1 {p b cc lc k0 q : Nat} (h : (98 ≤ k0 ∧ k0 ≤ 100) ∧ q = 8 * p + b ∨ k0 = 97 ∧ q = p) : ∀ k i s, wBq p b cc lc k i s = false → w1 k0 q k i s = false := mono_of (fun k i s g => by
  have : k = k0 ∧ s = q := by simpa [w1, nb_d] using g
  rw [wBq_is]
  omega)
theorem wBq_pr {p b cc lc : Nat} (hb : b < 8) : ∀ k i s, wPr p k i s = false → wBq p b cc lc k i s = false := mono_of (fun k i s h => by
  rw [wBq_is] at h
  rcases h with ⟨rfl, q⟩ | rfl | ⟨q, rfl⟩ | ⟨rfl, rfl⟩ | ⟨q, q2⟩ | ⟨q, q2⟩
  · simp [wPr, nb_d, nl_d]; omega
  · simp [wPr, nb_d]
  · rcases (show k = 98 ∨ k = 99 ∨ k = 100 by omega) with rfl | rfl | rfl <;> (simp [wPr, nb_d, nl_d, psz, szf]; omega)
  · simp [wPr, nb_d, nl_d, psz, szf]
  · rcases (show k = 101 ∨ k = 102 ∨ k = 103 ∨ k = 104 ∨ k = 105 ∨ k = 106 by omega) with rfl | rfl | rfl | rfl | rfl | rfl <;> (simp [wPr, nb_d, nl_d, psz, szf]; omega)
  · rcases q with rfl | rfl <;> (simp [wPr, nb_d, nl_d, psz, szf]; omega))
theorem liT_3 {B : Nat → Nat} {n a : Nat} {o : Bool} {r : Nat × Lt} (h : liT B n o a = .ok r) : a + 3 ≤ r.1 := by
  obtain ⟨h1, _, h2⟩ := liT_len h
  obtain ⟨_, w1', w2'⟩ := h2
  unfold bdC at h1
  rw [List.length_append, List.length_map, List.length_append] at h1
  have ne : ∀ {cs : List Cd}, wfc 17 cs 0 1 → 1 ≤ cs.length := fun {cs} h => by
    cases cs with
    | nil => exact absurd (show (0 : Nat) = 1 from h) (by decide)
    | cons c cs => rw [List.length_cons]; omega
  have := ne w1'
  have := ne w2'
  have h1 : _ + _ + 1 + a ≤ r.1 := h1
  omega
/-- lc literals and cc codes of page p, the bar's from f0 on -/
def BcM (M : Mem) (p f0 lc cc a : Nat) (L : List Lt) : Prop := (mI M 12 0 12 = 0 ∧ mI M 12 0 48 = nI (200 * p + lc) ∧ mI M 12 0 55 = nI (520 * p + cc)) ∧ (3 * lc ≤ a ∧ cc ≤ a) ∧ f0 + L.length = 200 * p + lc ∧ SpU M p cc f0 L
set_option maxHeartbeats 4000000 in
theorem bc_loop {Ω : Om} {K : Ka} {M0 : Mem} {B : Nat → Nat} {n p cc0 lc0 f0 kk : Nat} {tt : Int32} {lt : Option (Nat × Nat)} (hp : p < 4) {tl : Except Fa (Nat × List Lt)}
    (hN : ∀ M' (a3 a4 : Int32), Un (wBl p cc0 lc0) M0 M' → PsM M' B n (eb tl fun q => .ok (q.1, q.1 - 1, lt)) → (∀ q, tl = .ok q → ∃ lc cc, (lc0 ≤ lc ∧ cc0 ≤ cc) ∧ BcM M' p f0 lc cc q.1 q.2) → GoS Ω true m_MD_tellBar K 112 [some (vR (some (12, 0))), some (vI (nI kk)), some (vI tt), some (vI a3), some (vI a4)] [] M' 0 0) :
    ∀ (f : Nat) (or_ : Bool) (L : List Lt) (a lc cc : Nat) (M : Mem), 501 ≤ f + a → (lc0 ≤ lc ∧ cc0 ≤ cc) → Un (wBl p cc0 lc0) M0 M → PsM M B n (.ok (a, a - 1, lt)) → BcM M p f0 lc cc a L → coS B n f or_ L a = tl →
      GoS Ω true m_MD_tellBar K 56 [some (vR (some (12, 0))), some (vI (nI kk)), some (vI tt), some (vI (bI or_)), some (vI 1)] [] M 0 0 := by
  intro f
  induction f with
  | zero =>
    intro or_ L a lc cc M hf hle hU h hB htl
    have : a ≤ 500 := h.2.1.1.1
    omega
  | succ f ih =>
    intro or_ L a lc cc M hf hle hU h hB htl
    have h5 : a ≤ 500 := h.2.1.1.1
    obtain ⟨⟨h12, h48, h55⟩, ⟨h3, hcc⟩, hlen, hsp⟩ := hB
    rw [coS] at htl
    have h13 := h.2.2.2.1
    -- out of the loop
    have out : ∀ (M' : Mem) (a3 : Int32), Un (wBl p cc0 lc0) M0 M' → PsM M' B n (eb tl fun q => .ok (q.1, q.1 - 1, lt)) → (∀ q, tl = .ok q → ∃ lc cc, (lc0 ≤ lc ∧ cc0 ≤ cc) ∧ BcM M' p f0 lc cc q.1 q.2) → GoS Ω true m_MD_tellBar K 56 [some (vR (some (12, 0))), some (vI (nI kk)), some (vI tt), some (vI a3), some (vI 0)] [] M' 0 0 := fun M' a3 U' P' G' => by
      refine go_wp ok_MD_tellBar [112] 250 _ _ _ _ _ _ ?_
      exact And.intro (fun _ => hN M' a3 0 U' P' G') (fun q => absurd rfl q)
    refine go_wp ok_MD_tellBar [56, 73, 112] 250 _ _ _ _ _ _ ?_
    refine And.intro (fun q => absurd q (by decide)) (fun _ => ?_)
    refine And.intro (fun q => absurd h13 q) (fun _ => ?_)
    conv => whnf
    refine ⟨fun r M1 => r = none ∧ GoS Ω true m_MD_tellBar K 73 [some (vR (some (12, 0))), some (vI (nI kk)), some (vI tt), some (vI (bI or_)), some (vI 1)] [] M1 0 0, c_MD_literal Ω M B n p cc lc or_ (a, a - 1, lt) _ hp (by omega) h h12 h55 hcc h48 (fun M1 f' U1 P1 hf' => ⟨rfl, ?_⟩) (fun M1 r d U1 P1 hr y1 y2 y3 y4 y5 => ⟨rfl, ?_⟩), trivial, ?_⟩
    rotate_left
    rotate_left
    · rintro r M1 ⟨rfl, g⟩
      exact g
    · have hf' : liT B n or_ a = .error f' := hf'
      rw [hf'] at htl
      refine go_wp ok_MD_tellBar [56] 250 _ _ _ _ _ _ ?_
      conv => whnf
      refine cl_use (fun K h' => c_MD_is Ω M1 B n 211 31 _ K rfl (by decide) rfl P1 h') trivial ?_
      conv => whnf
      refine And.intro (fun q => absurd rfl q) (fun _ => ?_)
      conv => whnf
      refine cl_use (fun K h' => c_MD_is Ω M1 B n 212 32 _ K rfl (by decide) rfl P1 h') trivial ?_
      refine And.intro (fun _ => ?_) (fun q => absurd rfl q)
      conv => whnf
      refine And.intro (fun _ => ?_) (fun q => absurd rfl q)
      refine out M1 _ (hU.trans (U1.mono (wBl_lt hle.2 hle.1 (by omega)))) (by rw [← htl]; exact P1) (fun q hq => by rw [← htl] at hq; cases hq)
    · have hr : liT B n or_ a = .ok r := hr
      have hr3 := liT_3 hr
      rw [hr, eb_k] at htl
      have U01 : Un (wBl p cc0 lc0) M0 M1 := hU.trans (U1.mono (wBl_lt hle.2 hle.1 (by omega)))
      have un1 : ∀ k s, (101 ≤ k ∧ k ≤ 106 ∧ s < 200 * p + lc) ∨ ((k = 107 ∨ k = 108) ∧ s < 520 * p + cc) → mI M1 k 0 s = mI M k 0 s := fun k s hk => U1.I (by
        rw [Bool.eq_false_iff]
        intro z
        have := (wBl_lt (p := p) (Nat.le_refl cc) (Nat.le_refl lc) (by omega)) k 0 s
        cases hc : wBl p cc lc k 0 s with
        | false => rw [this hc] at z; cases z
        | true => rw [wBl_is] at hc; omega)
      have B1 : BcM M1 p f0 (lc + 1) (cc + d) r.1 (L ++ [r.2]) := by
        refine ⟨⟨y1, y2, y3⟩, ⟨by omega, y5⟩, ?_, ?_⟩
        · rw [List.length_append]; show f0 + (L.length + 1) = _; omega
        · refine SpU.app (hsp.cg (lc := 200 * p + lc) (Nat.le_add_right _ _) (fun k s a b c => un1 k s (Or.inl ⟨a, b, c⟩)) (fun s hs => ⟨un1 107 s (Or.inr ⟨Or.inl rfl, hs⟩), un1 108 s (Or.inr ⟨Or.inr rfl, hs⟩)⟩) (by omega)) ⟨?_, trivial⟩
          rw [hlen]
          exact y4
      have go : ∀ (M2 : Mem) (o : Bool), (tkK B n r.1 = 211 ∧ o = true) ∨ (tkK B n r.1 = 212 ∧ o = false) → Un wMe M1 M2 → PsM M2 B n (gnS (r.1, r.1 - 1, lt)) → GoS Ω true m_MD_tellBar K 56 [some (vR (some (12, 0))), some (vI (nI kk)), some (vI tt), some (vI (bI o)), some (vI 1)] [] M2 0 0 := fun M2 o ho U2 P2 => by
        have B2 : BcM M2 p f0 (lc + 1) (cc + d) (r.1 + 1) (L ++ [r.2]) := by
          obtain ⟨⟨b1, b2, b3⟩, ⟨b4, b5⟩, b6, b7⟩ := B1
          exact ⟨⟨(U2.I rfl).trans b1, (U2.I rfl).trans b2, (U2.I rfl).trans b3⟩, ⟨by omega, by omega⟩, b6, b7.cg (lc := 200 * p + (lc + 1)) (Nat.le_refl _) (fun k s a b _ => U2.I (by simp [wMe, nb_d]; omega)) (fun s _ => ⟨U2.I rfl, U2.I rfl⟩) (by omega)⟩
        have ht : (if 500 ≤ r.1 then .error (2, r.1) else coS B n f o (L ++ [r.2]) (r.1 + 1)) = tl := by
          rcases ho with ⟨ho, rfl⟩ | ⟨ho, rfl⟩
          · rw [if_pos ho] at htl; exact htl
          · rw [if_neg (by omega), if_pos ho] at htl; exact htl
        unfold gnS at P2
        by_cases c5 : 500 ≤ r.1
        · rw [if_pos (show 500 ≤ (r.1, r.1 - 1, lt).1 from c5)] at P2
          rw [if_pos c5] at ht
          refine go_wp ok_MD_tellBar [112] 250 _ _ _ _ _ _ ?_
          refine And.intro (fun q => absurd q (by decide)) (fun _ => ?_)
          rcases rm_fault P2 with ⟨f', e1, e2, e3⟩ | ⟨s', e1, e2, e3⟩
          · refine And.intro (fun _ => ?_) (fun z => absurd z e2)
            exact hN M2 _ _ (U01.trans (U2.mono wBl_me)) (by rw [← ht]; exact P2) (fun q hq => by rw [← ht] at hq; cases hq)
          · cases e1
        · rw [if_neg (show ¬ 500 ≤ (r.1, r.1 - 1, lt).1 from c5)] at P2
          rw [if_neg c5] at ht
          exact ih o (L ++ [r.2]) (r.1 + 1) (lc + 1) (cc + d) M2 (by omega) ⟨by omega, by omega⟩ (U01.trans (U2.mono wBl_me)) P2 B2 ht
      refine go_wp ok_MD_tellBar [56] 250 _ _ _ _ _ _ ?_
      conv => whnf
      refine cl_use (fun K h' => c_MD_is Ω M1 B n 211 31 _ K rfl (by decide) rfl P1 h') trivial ?_
      conv => whnf
      by_cases c1 : tkK B n r.1 = 211
      · rw [show isB B n 211 (.ok (r.1, r.1 - 1, lt)) = true from decide_eq_true c1]
        refine And.intro (fun _ => ?_) (fun q => absurd q (by decide))
        conv => whnf
        refine And.intro (fun q => absurd q (by decide)) (fun _ => ?_)
        conv => whnf
        refine ⟨fun r' M' => r' = none ∧ Un wMe M1 M' ∧ PsM M' B n (gnS (r.1, r.1 - 1, lt)), c_MD_goesOn Ω M1 B n (r.1, r.1 - 1, lt) _ (show 2 ≤ tkK B n r.1 by omega) P1 (fun M' a b => ⟨rfl, a, b⟩), trivial, ?_⟩
        rintro r' M2 ⟨rfl, U2, P2⟩
        conv => whnf
        exact go M2 true (Or.inl ⟨c1, rfl⟩) U2 P2
      · rw [show isB B n 211 (.ok (r.1, r.1 - 1, lt)) = false from decide_eq_false c1]
        refine And.intro (fun q => absurd rfl q) (fun _ => ?_)
        conv => whnf
        refine cl_use (fun K h' => c_MD_is Ω M1 B n 212 32 _ K rfl (by decide) rfl P1 h') trivial ?_
        by_cases c2 : tkK B n r.1 = 212
        · rw [show isB B n 212 (.ok (r.1, r.1 - 1, lt)) = true from decide_eq_true c2]
          refine And.intro (fun q => absurd q (by decide)) (fun _ => ?_)
          conv => whnf
          refine And.intro (fun q => absurd q (by decide)) (fun _ => ?_)
          conv => whnf
          refine ⟨fun r' M' => r' = none ∧ Un wMe M1 M' ∧ PsM M' B n (gnS (r.1, r.1 - 1, lt)), c_MD_goesOn Ω M1 B n (r.1, r.1 - 1, lt) _ (show 2 ≤ tkK B n r.1 by omega) P1 (fun M' a b => ⟨rfl, a, b⟩), trivial, ?_⟩
          rintro r' M2 ⟨rfl, U2, P2⟩
          conv => whnf
          exact go M2 false (Or.inr ⟨c2, rfl⟩) U2 P2
        · rw [show isB B n 212 (.ok (r.1, r.1 - 1, lt)) = false from decide_eq_false c2]
          refine And.intro (fun _ => ?_) (fun q => absurd rfl q)
          conv => whnf
          refine And.intro (fun _ => ?_) (fun q => absurd rfl q)
          rw [if_neg c1, if_neg c2] at htl
          exact out M1 _ U01 (by rw [← htl]; exact P1) (fun q hq => by rw [← htl] at hq; cases hq; exact ⟨lc + 1, cc + d, ⟨by omega, by omega⟩, B1⟩)
