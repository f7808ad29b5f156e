/-! READ: the class's reader, small methods -/
def wRe (k _i s : Nat) : Bool := Nat.beq k 4 && (Nat.ble 1 s && Nat.ble s 7)
def LtC (M : Mem) (lt : Option (Nat × Nat)) (a : Nat) : Prop := match lt with
  | none => mI M 4 0 6 = 0
  | some q => ((q.1 = 3 ∨ q.1 = 4 ∨ q.1 = 5) ∧ q.2 < a) ∧ mI M 4 0 6 = nI q.1 ∧ mI M 4 0 7 = nI q.2
def PsE (M : Mem) (B : Nat → Nat) (n : Nat) (f : Fa) : Prop := ((f.1 = 1 ∨ f.1 = 2) ∧ rch B n f.2) ∧ mI M 4 0 4 = nI f.1 ∧ mI M 4 0 5 = nI f.2
def PsO (M : Mem) (B : Nat → Nat) (n : Nat) (s : Ps) : Prop := (rch B n s.1 ∧ s.2.1 = s.1 - 1) ∧ mI M 4 0 1 = nI s.1 ∧ mI M 4 0 2 = nI (tkK B n s.1) ∧ mI M 4 0 3 = nI s.2.1 ∧ mI M 4 0 4 = 0 ∧ LtC M s.2.2 s.1
/-- the class's reader -/
def PsC (M : Mem) (B : Nat → Nat) (n : Nat) (e : Except Fa Ps) : Prop := (TpC M B n ∧ TkC M B n) ∧ match e with
  | .error f => PsE M B n f
  | .ok s => PsO M B n s
theorem LtC.un {w : Nat → Nat → Nat → Bool} {M M' : Mem} {lt : Option (Nat × Nat)} {a : Nat} (h : LtC M lt a) (hU : Un w M M') (hw : ∀ s, w 4 0 s = false) : LtC M' lt a := by
  cases lt with
  | none => exact (hU.I (hw _)).trans h
  | some q => exact ⟨h.1, (hU.I (hw _)).trans h.2.1, (hU.I (hw _)).trans h.2.2⟩
theorem PsC.un {w : Nat → Nat → Nat → Bool} {M M' : Mem} {B : Nat → Nat} {n : Nat} {e : Except Fa Ps} (h : PsC M B n e) (hU : Un w M M') (hw : ∀ s, s ≤ 7 → w 4 0 s = false) (h8 : ∀ s, w 8 0 s = false) (ha : ∀ k s, k = 63 ∨ k = 49 ∨ k = 50 ∨ k = 51 ∨ k = 52 → w k 0 s = false) : PsC M' B n e := by
  refine ⟨⟨h.1.1.un hU (h8 _) (h8 _) (fun s => ha _ _ (by omega)) (fun s => ha _ _ (by omega)), h.1.2.un hU (h8 _) (fun k s hk => ha _ _ (by omega))⟩, ?_⟩
  have h2 := h.2
  cases e with
  | error f => exact ⟨h2.1, (hU.I (hw _ (by decide))).trans h2.2.1, (hU.I (hw _ (by decide))).trans h2.2.2⟩
  | ok s =>
    obtain ⟨a, b, c, d, e, g⟩ := h2
    refine ⟨a, (hU.I (hw _ (by decide))).trans b, (hU.I (hw _ (by decide))).trans c, (hU.I (hw _ (by decide))).trans d, (hU.I (hw _ (by decide))).trans e, ?_⟩
    cases hl : s.2.2 with
    | none => rw [hl] at g; exact (hU.I (hw _ (by decide))).trans g
    | some q => rw [hl] at g; exact ⟨g.1, (hU.I (hw _ (by decide))).trans g.2.1, (hU.I (hw _ (by decide))).trans g.2.2⟩
theorem TpC.re {M M' : Mem} {B : Nat → Nat} {n : Nat} (h : TpC M B n) (hU : Un wRe M M') : TpC M' B n := h.un hU rfl rfl (fun _ => rfl) (fun _ => rfl)
theorem TkC.re {M M' : Mem} {B : Nat → Nat} {n : Nat} (h : TkC M B n) (hU : Un wRe M M') : TkC M' B n := h.un hU rfl (fun k s hk => by rcases hk with rfl | rfl | rfl <;> rfl)
theorem c_kindOf (Ω : Om) (M : Mem) (B : Nat → Nat) (n i : Nat) (K : Ka) (hT : TkC M B n) (hi : rch B n i) (h : K (some (vI (nI (tkK B n i)))) M) : CallS Ω true m_Tokens_kindOf [vR (some (8, 0)), vI (nI i)] M K := by
  obtain ⟨⟨c, c1, c2, c3⟩, e50, -, -⟩ := hT i hi
  have h5 := hi.1
  refine call_go (hJL rfl) (Nat.le_of_ble_eq_true rfl) (go_wp ok_Tokens_kindOf [] 250 _ _ _ _ _ _ ?_)
  refine And.intro (fun a => absurd a (nI_pos (by omega))) (fun _ => And.intro (fun a => ?_) (fun _ => And.intro (fun a => absurd a (nI_nlt (a := 500) (by omega) (by decide))) (fun _ => ?_)))
  · rw [c3, nI_leI (by omega) (by omega)] at a; omega
  · conv => whnf
    refine And.intro (vp_in_nI (by omega) (by decide)) ?_
    rw [nI_clamp (by omega), e50]
    exact h
theorem c_tkVal (Ω : Om) (M : Mem) (B : Nat → Nat) (n : Nat) (x : Int32) (K : Ka) (hT : TkC M B n) (hc : ∃ c, c ≤ 501 ∧ mI M 8 0 4 = nI c) (h : ∀ y, (∀ i, rch B n i → x = nI i → y = tkV B n i) → K (some (vJ y)) M) : CallS Ω true m_Tokens_valueOf [vR (some (8, 0)), vI x] M K := by
  obtain ⟨c, hc1, hc2⟩ := hc
  refine call_go (hJL rfl) (Nat.le_of_ble_eq_true rfl) (go_wp ok_Tokens_valueOf [] 250 _ _ _ _ _ _ ?_)
  refine And.intro (fun a => ?_) (fun z0 => And.intro (fun a => ?_) (fun z1 => And.intro (fun a => ?_) (fun z2 => ?_)))
  · refine h 0 (fun i hi e => ?_)
    rw [e] at a
    exact absurd a (nI_pos (by have := hi.1; omega))
  · refine h 0 (fun i hi e => ?_)
    obtain ⟨⟨c', c1, c2, c3⟩, -⟩ := hT i hi
    rw [e, c3, nI_leI (by omega) (by have := hi.1; omega)] at a
    omega
  · refine h 0 (fun i hi e => ?_)
    rw [e] at a
    exact absurd a (nI_nlt (a := 500) hi.1 (by decide))
  · obtain ⟨j, hj, rfl⟩ := nI_of z0
    have hj5 : j ≤ 500 := by
      have z2 : ¬ nI 500 < nI j := z2
      rw [nI_ltI (by omega) (by omega)] at z2
      omega
    conv => whnf
    refine And.intro (vp_in_nI (by omega) (by decide)) ?_
    rw [nI_clamp (by omega)]
    refine h _ (fun i hi e => ?_)
    have e := (nI_eq (by omega) (by have := hi.1; omega)).mp e
    subst e
    exact (hT j hi).2.2.2
theorem rch0 (B : Nat → Nat) (n : Nat) : rch B n 0 := ⟨by decide, fun j hj => absurd hj (Nat.not_lt_zero _)⟩
theorem rchp {B : Nat → Nat} {n a : Nat} (h : rch B n a) : rch B n (a - 1) := ⟨by have := h.1; omega, fun j hj => h.2 j (by omega)⟩
theorem TkC.c {M : Mem} {B : Nat → Nat} {n : Nat} (h : TkC M B n) : ∃ c, c ≤ 501 ∧ mI M 8 0 4 = nI c := by
  obtain ⟨⟨c, -, h2, h3⟩, -⟩ := h 0 (rch0 B n)
  exact ⟨c, h2, h3⟩
/-- SYNTAX or ROOM -/
theorem c_stop (Ω : Om) (M : Mem) (B : Nat → Nat) (n wh : Nat) (e : Except Fa Ps) (K : Ka) (hw : wh = 1 ∨ wh = 2) (h : PsC M B n e) (hK : ∀ M', Un wRe M M' → PsC M' B n (eb e fun s => .error (wh, s.1)) → K none M') : CallS Ω true m_Reader_stop [vR (some (4, 0)), vI (nI wh)] M K := by
  refine call_go (hJL rfl) (Nat.le_of_ble_eq_true rfl) (go_wp ok_Reader_stop [] 250 _ _ _ _ _ _ ?_)
  cases e with
  | error f =>
    have hf := h.2.2.1
    refine And.intro (fun _ => hK M Un.rfl h) (fun a => ?_)
    rw [hf] at a
    rcases h.2.1.1 with q | q <;> (rw [q] at a; exact absurd a (by decide))
  | ok s =>
    obtain ⟨p1, p2, p3, p4, p5, p6⟩ := h.2
    refine And.intro (fun a => absurd p5 a) (fun _ => ?_)
    conv => whnf
    rw [mI_st rfl, p2]
    have hU : Un wRe M (sI (sI M 4 0 4 (nI wh)) 4 0 5 (nI s.1)) := (Un.rfl.pI rfl).pI rfl
    refine hK _ hU ⟨⟨h.1.1.re hU, h.1.2.re hU⟩, ⟨hw, p1.1⟩, ?_, mI_eq⟩
    rw [mI_st rfl, mI_eq]
theorem LtC.up {M : Mem} {lt : Option (Nat × Nat)} {a b : Nat} (h : LtC M lt a) (hab : a ≤ b) : LtC M lt b := by
  cases lt with
  | none => exact h
  | some q => exact ⟨⟨h.1.1, by have := h.1.2; omega⟩, h.2⟩
/-- the faults that count late -/
theorem c_blame (Ω : Om) (M : Mem) (B : Nat → Nat) (n k : Nat) (e : Except Fa Ps) (K : Ka) (hk : k = 3 ∨ k = 4 ∨ k = 5) (h : PsC M B n e) (h1 : ∀ s, e = .ok s → 1 ≤ s.1) (hK : ∀ M', Un wRe M M' → PsC M' B n (eb e fun s => .ok (blS k true s)) → K none M') : CallS Ω true m_Reader_blame [vR (some (4, 0)), vI (nI k)] M K := by
  have k0 : ¬ nI k = 0 := fun q => by
    have := (nI_eq (b := 0) (by omega) (by decide)).mp q
    omega
  refine call_go (hJL rfl) (Nat.le_of_ble_eq_true rfl) (go_wp ok_Reader_blame [] 250 _ _ _ _ _ _ ?_)
  refine And.intro (fun a => ?_) (fun a => ?_)
  · refine hK M Un.rfl ?_
    cases e with
    | error f => exact h
    | ok s =>
      refine ⟨h.1, ?_⟩
      obtain ⟨p1, p2, p3, p4, p5, p6⟩ := h.2
      refine ⟨p1, p2, p3, p4, p5, ?_⟩
      show LtC M (some (s.2.2.getD (k, s.2.1))) s.1
      cases hl : s.2.2 with
      | none => rw [hl] at p6; exact absurd p6 a
      | some q => rw [hl] at p6; exact p6
  · conv => whnf
    rw [mI_st rfl]
    have hU : Un wRe M (sI (sI M 4 0 6 (nI k)) 4 0 7 (mI M 4 0 3)) := (Un.rfl.pI rfl).pI rfl
    refine hK _ hU ⟨⟨h.1.1.re hU, h.1.2.re hU⟩, ?_⟩
    cases e with
    | error f => exact ⟨h.2.1, h.2.2.1, h.2.2.2⟩
    | ok s =>
      obtain ⟨p1, p2, p3, p4, p5, p6⟩ := h.2
      refine ⟨p1, p2, p3, p4, p5, ?_⟩
      show LtC _ (some (s.2.2.getD (k, s.2.1))) s.1
      have hs := h1 s rfl
      cases hl : s.2.2 with
      | none =>
        refine ⟨⟨hk, by show s.2.1 < s.1; omega⟩, ?_, ?_⟩
        · rw [mI_st rfl, mI_eq]; rfl
        · rw [mI_eq, p4]; rfl
      | some q =>
        rw [hl] at p6
        rw [p6.2.1] at a
        exfalso
        have := (nI_eq (b := 0) (by have := p6.1.1; omega) (by decide)).mp a
        have := p6.1.1
        omega
theorem c_take (Ω : Om) (M : Mem) (B : Nat → Nat) (n due : Nat) (e : Except Fa Ps) (K : Ka) (hd : 2 ≤ due ∧ due < 300) (h : PsC M B n e) (hK : ∀ M', Un wRe M M' → PsC M' B n (eb e (tkS B n due)) → K none M') : CallS Ω true m_Reader_take [vR (some (4, 0)), vI (nI due)] M K := by
  refine call_go (hJL rfl) (Nat.le_of_ble_eq_true rfl) (go_wp ok_Reader_take [] 250 _ _ _ _ _ _ ?_)
  cases e with
  | error f =>
    have hf := h.2.2.1
    refine And.intro (fun a => ?_) (fun _ => hK M Un.rfl h)
    rw [hf] at a
    rcases h.2.1.1 with q | q <;> (rw [q] at a; exact absurd a (by decide))
  | ok s =>
    obtain ⟨p1, p2, p3, p4, p5, p6⟩ := id h.2
    have htp := h.1.1
    have htk := h.1.2
    have h5 := p1.1.1
    have hk := tkK_lt B n s.1
    refine And.intro (fun _ => ?_) (fun a => absurd p5 a)
    conv => whnf
    rw [p3]
    refine And.intro (fun a => ?_) (fun a => ?_)
    · have a := (nI_eq (by omega) (by omega)).mp a
      conv => whnf
      rw [p2]
      refine And.intro (fun b => ?_) (fun b => ?_)
      · have b : nI s.1 < nI 500 := b
        rw [nI_ltI (by omega) (by omega)] at b
        have hr : rch B n (s.1 + 1) := ⟨by omega, fun j hj => by
          rcases Nat.lt_succ_iff_lt_or_eq.mp hj with q | q
          · exact p1.1.2 j q
          · rw [q, a]; exact hd.1⟩
        conv => whnf
        rw [p2, mI_st rfl, p2, mI_eq, nI_1]
        have hU : Un wRe M (sI (sI M 4 0 3 (nI s.1)) 4 0 1 (nI (s.1 + 1))) := (Un.rfl.pI rfl).pI rfl
        refine cl_use (fun K h => c_kindOf Ω _ B n (s.1 + 1) K (htk.re hU) hr h) trivial ?_
        have hU2 : Un wRe M (sI (sI (sI M 4 0 3 (nI s.1)) 4 0 1 (nI (s.1 + 1))) 4 0 2 (nI (tkK B n (s.1 + 1)))) := hU.pI rfl
        refine hK _ hU2 ?_
        show PsC _ B n (tkS B n due s)
        unfold tkS
        rw [if_pos a, if_neg (by omega)]
        refine ⟨⟨htp.re hU2, htk.re hU2⟩, ⟨hr, rfl⟩, ?_, mI_eq, ?_, ?_, ?_⟩
        · rw [mI_st rfl, mI_eq]
        · rw [mI_st rfl, mI_st rfl, mI_eq]
        · rw [mI_st rfl, mI_st rfl, mI_st rfl]; exact p5
        · refine LtC.up (a := s.1) ?_ (Nat.le_succ _)
          show LtC _ s.2.2 s.1
          cases hl : s.2.2 with
          | none => rw [hl] at p6; show mI _ 4 0 6 = 0; rw [mI_st rfl, mI_st rfl, mI_st rfl]; exact p6
          | some q =>
            rw [hl] at p6
            refine ⟨p6.1, ?_, ?_⟩
            · rw [mI_st rfl, mI_st rfl, mI_st rfl]; exact p6.2.1
            · rw [mI_st rfl, mI_st rfl, mI_st rfl]; exact p6.2.2
      · have b : ¬ nI s.1 < nI 500 := b
        rw [nI_ltI (by omega) (by omega)] at b
        conv => whnf
        refine ⟨fun r M' => r = none ∧ Un wRe M M' ∧ PsC M' B n (eb (.ok s) fun s => .error (2, s.1)), c_stop Ω M B n 2 (.ok s) _ (Or.inr rfl) h (fun M' a b => ⟨rfl, a, b⟩), trivial, ?_⟩
        rintro r M1 ⟨rfl, q1, q2⟩
        conv => whnf
        refine hK M1 q1 ?_
        show PsC M1 B n (tkS B n due s)
        unfold tkS
        rw [if_pos a, if_pos (by omega)]
        exact q2
    · have a : ¬ tkK B n s.1 = due := fun q => a (by rw [q])
      conv => whnf
      refine ⟨fun r M' => r = none ∧ Un wRe M M' ∧ PsC M' B n (eb (.ok s) fun s => .error (1, s.1)), c_stop Ω M B n 1 (.ok s) _ (Or.inl rfl) h (fun M' a b => ⟨rfl, a, b⟩), trivial, ?_⟩
      rintro r M1 ⟨rfl, q1, q2⟩
      conv => whnf
      refine hK M1 q1 ?_
      show PsC M1 B n (tkS B n due s)
      unfold tkS
      rw [if_neg a]
      exact q2
