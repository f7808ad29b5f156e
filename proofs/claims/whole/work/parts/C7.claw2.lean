/-! READ: the class's reader: a law -/
def wLw (t q k i s : Nat) : Bool := wPt q k i s || (wNb t k i s || (Nat.beq k 7 && (Nat.beq s 1 && Nat.beq i t)))
theorem wLw_pt {t q : Nat} : ∀ k i s, wLw t q k i s = false → wPt q k i s = false := fun k i s h => (Bool.or_eq_false_iff.mp h).1
theorem wLw_re {t q : Nat} : ∀ k i s, wLw t q k i s = false → wRe k i s = false := fun k i s h => wPt_re k i s (wLw_pt k i s h)
theorem wLw_nb {t q : Nat} : ∀ k i s, wLw t q k i s = false → wNb t k i s = false := fun k i s h => (Bool.or_eq_false_iff.mp (Bool.or_eq_false_iff.mp h).2).1
theorem wLw_na {t q : Nat} : ∀ k i s, wLw t q k i s = false → wNa t k i s = false := fun k i s h => by unfold wNa; rw [wLw_re k i s h, wLw_nb k i s h]; rfl
theorem San2.nb {M M' : Mem} {t k : Nat} (h : San2 M t k) (hU : Un (wNb t) M M') : San2 M' t k := by
  obtain ⟨c, a, b⟩ := h
  exact ⟨c, a, (hU.I rfl).trans b⟩
theorem San1.pb {M M' : Mem} {t q : Nat} (h : San1 M t) (hU : Un (wPb q) M M') : San1 M' t := by
  obtain ⟨c, a, b⟩ := h
  exact ⟨c, a, (hU.I rfl).trans b⟩
theorem NmC.pb {M M' : Mem} {t q : Nat} {N : Nm} (h : NmC M t N) (hU : Un (wPb q) M M') : NmC M' t N := h.un hU rfl (fun k s hk => by rcases hk with rfl | rfl | rfl <;> rfl)
theorem wPt_na {q k i s : Nat} (h : k = 7 ∨ k = 46 ∨ k = 47 ∨ k = 48) : wPt q k i s = false := by
  rcases h with rfl | rfl | rfl | rfl <;> rfl
theorem NmC.pt {M M' : Mem} {t q : Nat} {N : Nm} (h : NmC M t N) (hU : Un (wPt q) M M') : NmC M' t N := h.un hU (wPt_na (by omega)) (fun k s hk => wPt_na (by omega))
theorem San1.pt {M M' : Mem} {t q : Nat} (h : San1 M t) (hU : Un (wPt q) M M') : San1 M' t := by
  obtain ⟨c, a, b⟩ := h
  exact ⟨c, a, (hU.I (wPt_na (by omega))).trans b⟩
theorem LwP.nb {M M' : Mem} {t k np : Nat} {T : Tx} (h : LwP M t k T np) (hU : Un (wNb t) M M') : LwP M' t k T np := ⟨(hU.I rfl).trans h.1, fun j hj => ⟨(hU.I rfl).trans (h.2 j hj).1, (hU.I rfl).trans (h.2 j hj).2⟩⟩
/-- what the points change of the page -/
theorem ptS_T {B : Nat → Nat} {n k np : Nat} {s : Ps} {T : Tx} {r : Ps × Tx} (h : ptS B n k np s T = .ok r) (hnp : np < 8) : (∀ f a, (f = 77 → ¬ a = k) → (f = 78 ∨ f = 79 → a < 8 * k ∨ 8 * k + 8 ≤ a) → r.2 f a = T f a) ∧ r.2 77 k = nI (np + 1) := by
  obtain ⟨a1, h1, h2⟩ := eb_ok h
  obtain ⟨b, h3, h4⟩ := eb_ok h2
  cases h4
  refine ⟨fun f a g1 g2 => ?_, upT_eq⟩
  show upT (upT (upT T 78 (8 * k + np) a1.2) 79 (8 * k + np) b.2) 77 k (nI (np + 1)) f a = T f a
  unfold upT
  rw [if_neg (fun q => g1 q.1 q.2), if_neg (fun q => by have := g2 (Or.inr q.1); omega), if_neg (fun q => by have := g2 (Or.inl q.1); omega)]
theorem ptL_T {B : Nat → Nat} {n k : Nat} : ∀ {f np : Nat} {s : Ps} {T : Tx} {r : Ps × Tx}, ptL B n k f np s T = .ok r → ∀ f a, (f = 77 → ¬ a = k) → (f = 78 ∨ f = 79 → a < 8 * k ∨ 8 * k + 8 ≤ a) → r.2 f a = T f a := by
  intro f
  induction f with
  | zero => intro np s T r h; cases h; intro f a _ _; rfl
  | succ f ih =>
    intro np s T r h f' a g1 g2
    rw [ptL] at h
    split at h
    · obtain ⟨a1, h1, h2⟩ := eb_ok h
      split at h2
      · cases h2
      · obtain ⟨b, h3, h4⟩ := eb_ok h2
        exact (ih h4 f' a g1 g2).trans ((ptS_T h3 (by omega)).1 f' a g1 g2)
    · cases h; rfl
theorem rd_fault {M : Mem} {B : Nat → Nat} {n : Nat} {e : Except Fa Ps} (h : PsC M B n e) : (∃ f, e = .error f ∧ ¬ mI M 4 0 4 = 0) ∨ ∃ s, e = .ok s ∧ mI M 4 0 4 = 0 ∧ mI M 4 0 2 = nI (tkK B n s.1) := by
  cases e with
  | error f =>
    refine Or.inl ⟨f, rfl, fun a => ?_⟩
    rw [h.2.2.1] at a
    rcases h.2.1.1 with q | q <;> (rw [q] at a; exact absurd a (by decide))
  | ok s => exact Or.inr ⟨s, rfl, h.2.2.2.2.2.1, h.2.2.2.1⟩
theorem tk_e {B : Nat → Nat} {n i c : Nat} (hc : c < 256) : nI (tkK B n i) = nI c ↔ tkK B n i = c := nI_eq (by have := tkK_lt B n i; omega) (by omega)
set_option maxHeartbeats 2000000 in
theorem lw_loop {Ω : Om} {K : Ka} {M0 : Mem} {B : Nat → Nat} {n t k so : Nat} {tl : Except Fa (Ps × Tx)}
    (hN : ∀ M' r5, Un (wPt (8 * t + k)) M0 M' → PsC M' B n (eb tl fun r => .ok r.1) → (∀ r, tl = .ok r → ∃ np, np ≤ 8 ∧ r.2 77 k = nI np ∧ LwP M' t k r.2 np) → GoS Ω true m_Reader_tellLaw K 124 [some (vR (some (4, 0))), some (vR (some (7, t))), some (vI (nI so)), some (vI (nI k)), some (vR (some (3, 8 * t + k))), r5] [] M' 0 0) :
    ∀ (f np : Nat) (y : Except Fa (Ps × Tx)) (M1 : Mem), np + f = 9 → 2 ≤ np → np ≤ 8 → Un (wPt (8 * t + k)) M0 M1 → PsC M1 B n (eb y fun r => .ok r.1) → San2 M1 t k → (∀ r, y = .ok r → r.2 77 k = nI np ∧ LwP M1 t k r.2 np) → (eb y fun r => ptL B n k f np r.1 r.2) = tl →
      GoS Ω true m_Reader_tellLaw K 68 [some (vR (some (4, 0))), some (vR (some (7, t))), some (vI (nI so)), some (vI (nI k)), some (vR (some (3, 8 * t + k))), some (vI (nI np))] [] M1 0 0 := by
  intro f
  induction f with
  | zero => intro np y M1 hf h2 h8; omega
  | succ f ih =>
    intro np y M1 hf h2 h8 hU h hS hL he
    refine go_wp ok_Reader_tellLaw [68, 118, 124] 250 _ _ _ _ _ _ ?_
    refine And.intro (fun q => absurd q (nI_nlt (a := 8) h8 (by decide))) (fun _ => ?_)
    conv => whnf
    rcases rd_fault h with ⟨fa, e1, e2⟩ | ⟨s, e1, e2, e3⟩
    · refine And.intro (fun _ => ?_) (fun q => absurd q e2)
      cases y with
      | error g =>
        rw [eb_x] at he
        subst he
        rw [eb_x] at h
        exact hN M1 _ hU (by rw [eb_x]; exact h) (fun r hr => by cases hr)
      | ok r => rw [eb_k] at e1; cases e1
    · refine And.intro (fun q => absurd e2 q) (fun _ => ?_)
      cases y with
      | error g => rw [eb_x] at e1; cases e1
      | ok r =>
        rw [eb_k] at e1 h he
        cases e1
        obtain ⟨hT, hLw⟩ := hL r rfl
        rw [ptL] at he
        conv => whnf
        rw [e3]
        refine And.intro (fun q => ?_) (fun q => ?_)
        · have q : ¬ tkK B n r.1.1 = 44 := fun z => q (by rw [z]; rfl)
          rw [if_neg q] at he
          subst he
          exact hN M1 _ hU h (fun r' hr' => by cases hr'; exact ⟨np, h8, hT, hLw⟩)
        · have q : tkK B n r.1.1 = 44 := (tk_e (c := 44) (by decide)).mp q
          rw [if_pos q] at he
          conv => whnf
          refine ⟨fun r' M' => r' = none ∧ Un wRe M1 M' ∧ PsC M' B n (eb (.ok r.1) (tkS B n 44)), c_take Ω M1 B n 44 (.ok r.1) _ ⟨by decide, by decide⟩ h (fun M' a b => ⟨rfl, a, b⟩), trivial, ?_⟩
          rintro r' M2 ⟨rfl, hU2, h2'⟩
          rw [eb_k] at h2'
          have hU2' := hU.trans (hU2.mono wPt_re)
          conv => whnf
          refine And.intro (fun z => ?_) (fun z => ?_)
          · have z : nI 8 ≤ nI np := z
            rw [nI_leI (by omega) (by omega)] at z
            conv => whnf
            refine ⟨fun r' M' => r' = none ∧ Un wRe M2 M' ∧ PsC M' B n (eb (tkS B n 44 r.1) fun s => .error (2, s.1)), c_stop Ω M2 B n 2 _ _ (Or.inr rfl) h2' (fun M' a b => ⟨rfl, a, b⟩), trivial, ?_⟩
            rintro r' M3 ⟨rfl, hU3, h3⟩
            have e4 : tl = eb (tkS B n 44 r.1) (fun s => .error (2, s.1)) := by
              rw [← he]
              exact eb_cg (fun s _ => by rw [if_pos z])
            have e5 : ∃ g, tl = .error g ∧ PsC M3 B n (.error g) := by
              rw [e4]
              cases hh : tkS B n 44 r.1 with
              | error g => rw [hh, eb_x] at h3; exact ⟨g, by rw [eb_x], h3⟩
              | ok s => rw [hh, eb_k] at h3; exact ⟨_, by rw [eb_k], h3⟩
            obtain ⟨g, e6, e7⟩ := e5
            conv => whnf
            refine go_wp ok_Reader_tellLaw [68] 250 _ _ _ _ _ _ ?_
            conv => whnf
            rw [nI_1]
            refine go_wp ok_Reader_tellLaw [124] 250 _ _ _ _ _ _ ?_
            refine And.intro (fun _ => ?_) (fun w => absurd (show (8 : Int32) < nI (np + 1) from nI_lt (a := 8) (by omega) (by omega)) w)
            exact hN M3 _ (hU2'.trans (hU3.mono wPt_re)) (by rw [e6, eb_x]; exact e7) (fun r hr => by rw [e6] at hr; cases hr)
          · have z : ¬ nI 8 ≤ nI np := z
            rw [nI_leI (by omega) (by omega)] at z
            conv => whnf
            refine ⟨fun r' M' => r' = none ∧ Un (wPt (8 * t + k)) M2 M' ∧ PsC M' B n (eb (eb (eb (tkS B n 44 r.1) fun s => .ok (s, r.2)) fun r => ptS B n k np r.1 r.2) fun r => .ok r.1) ∧ San2 M' t k ∧ (∀ r', (eb (eb (tkS B n 44 r.1) fun s => .ok (s, r.2)) fun r => ptS B n k np r.1 r.2) = .ok r' → LwP M' t k r'.2 (np + 1)), c_tellPoint Ω M2 B n t k np (eb (tkS B n 44 r.1) fun s => .ok (s, r.2)) _ (by omega) (by rw [eb_eb, show eb (tkS B n 44 r.1) (fun a => eb (.ok (a, r.2)) fun r => .ok r.1) = eb (tkS B n 44 r.1) (fun s => .ok s) from eb_cg (fun s _ => by rw [eb_k]), show eb (tkS B n 44 r.1) (fun s => .ok s) = tkS B n 44 r.1 by cases tkS B n 44 r.1 <;> first | rw [eb_x] | rw [eb_k]]; exact h2') (hS.re hU2) (fun r' hr' => ?_) (fun M' a b c d => ⟨rfl, a, b, c, d⟩), trivial, ?_⟩
            · obtain ⟨s, z1, z2⟩ := eb_ok hr'
              cases z2
              exact hLw.re hU2
            rintro r' M3 ⟨rfl, hU3, h3, hS3, hL3⟩
            conv => whnf
            refine go_wp ok_Reader_tellLaw [68] 250 _ _ _ _ _ _ ?_
            conv => whnf
            rw [nI_1]
            refine ih (np + 1) _ M3 (by omega) (by omega) (by omega) (hU2'.trans hU3) h3 hS3 (fun r' hr' => ⟨?_, hL3 r' hr'⟩) ?_
            · obtain ⟨r0, z1, z2⟩ := eb_ok hr'
              exact (ptS_T z2 (by omega)).2
            · rw [← he, eb_eb, eb_eb]
              refine eb_cg (fun s _ => ?_)
              rw [eb_k, if_neg z]
