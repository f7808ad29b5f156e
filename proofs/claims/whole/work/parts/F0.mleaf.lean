/-! READ: the model's reader, small methods -/
def kdR (k : Nat) : Bool := Nat.ble k 7 || ((Nat.ble 40 k && Nat.ble k 45) || (Nat.beq k 47 || (Nat.beq k 58 || (Nat.beq k 59 || (Nat.ble 200 k && Nat.ble k 221)))))
def umK (m : Nat) : Nat := if m = 0 then 0 else if m = 3 then 1 else if m = 1 then 2 else if m = 2 then 3 else if m = 6 then 40 else if m = 7 then 41 else if m = 10 then 42 else if m = 8 then 43 else if m = 16 then 44 else if m = 9 then 45 else if m = 15 then 47 else if m = 5 then 58 else if m = 4 then 59 else if m = 30 then 209 else if m = 29 then 210 else if m ≤ 14 then m - 7 else m + 180
theorem um_mk : ∀ k, k < 222 → kdR k = true → umK (mkK k) = k := by decide +kernel
theorem wkR_kd : ∀ (w : Int64) (f i : Nat), i + f ≤ 22 → kdR (wkR w f i) = true := by
  intro w f
  induction f with
  | zero => intro i _; rfl
  | succ f ih =>
    intro i h
    rw [wkR]
    split
    · simp [kdR, nb_d, nl_d]; omega
    · exact ih (i + 1) (by omega)
theorem sgK_kd (c : Nat) (e : Bool) : kdR (sgK c e) = true := by
  unfold sgK
  split
  · split <;> rfl
  · split
    · split <;> rfl
    · split
      · split <;> rfl
      · split
        next h => rcases h with rfl | rfl | rfl | rfl | rfl | rfl | rfl | rfl | rfl <;> rfl
        next => rfl
theorem tkK_kd (B : Nat → Nat) (n i : Nat) : kdR (tkK B n i) = true := by
  unfold tkK tokAt
  split
  · rfl
  · split
    · split
      · rfl
      · exact wkR_kd _ 22 0 (by decide)
    · split
      · split <;> rfl
      · exact sgK_kd _ _
theorem mkK_lt : ∀ k, k < 222 → mkK k < 222 := by decide +kernel
theorem mk_e {B : Nat → Nat} {n i due m : Nat} (hm : mkK due = m) (hd : due < 222) (hk : kdR due = true) : nI (mkK (tkK B n i)) = nI m ↔ tkK B n i = due := by
  have h1 := mkK_lt _ (tkK_lt B n i)
  have h2 := mkK_lt _ hd
  rw [hm] at h2
  rw [nI_eq (by omega) (by omega)]
  refine ⟨fun e => ?_, fun e => by rw [e, hm]⟩
  rw [← um_mk _ (tkK_lt B n i) (tkK_kd B n i), e, ← hm, um_mk _ hd hk]
def TkM (M : Mem) (B : Nat → Nat) (n : Nat) : Prop := ∀ i, rch B n i → TkI M B n i
def LtM (M : Mem) (B : Nat → Nat) (n : Nat) (lt : Option (Nat × Nat)) (a : Nat) : Prop := match lt with
  | none => mI M 12 0 15 = 0
  | some q => ((q.1 = 3 ∨ q.1 = 4 ∨ q.1 = 5) ∧ q.2 < a) ∧ mI M 12 0 15 = nI q.1 ∧ mI M 12 0 16 = nI (psS B n q.2)
def PmE (M : Mem) (B : Nat → Nat) (n : Nat) (f : Fa) : Prop := ((f.1 = 1 ∨ f.1 = 2) ∧ rch B n f.2) ∧ (∃ t, t ≤ 500 ∧ mI M 12 0 11 = nI t) ∧ mI M 12 0 13 = nI f.1 ∧ mI M 12 0 14 = nI (psS B n f.2)
def PmO (M : Mem) (B : Nat → Nat) (n : Nat) (s : Ps) : Prop := (rch B n s.1 ∧ s.2.1 = s.1 - 1) ∧ mI M 12 0 11 = nI s.1 ∧ mI M 12 0 13 = 0 ∧ LtM M B n s.2.2 s.1
/-- the model's reader -/
def PsM (M : Mem) (B : Nat → Nat) (n : Nat) (e : Except Fa Ps) : Prop := TkM M B n ∧ match e with
  | .error f => PmE M B n f
  | .ok s => PmO M B n s
/-- what the model's reader touches of itself -/
def wMe (k _i s : Nat) : Bool := Nat.beq k 12 && (Nat.beq s 11 || (Nat.ble 13 s && Nat.ble s 16))
def wMn (k _i s : Nat) : Bool := Nat.beq k 12 && (Nat.beq s 11 || ((Nat.ble 13 s && Nat.ble s 16) || Nat.beq s 58))
theorem wMn_me : ∀ k i s, wMn k i s = false → wMe k i s = false := fun k i s h => by simp [wMn, wMe, nb_d, nl_d] at h ⊢; omega
theorem LtM.un {w : Nat → Nat → Nat → Bool} {M M' : Mem} {B : Nat → Nat} {n : Nat} {lt : Option (Nat × Nat)} {a : Nat} (h : LtM M B n lt a) (hU : Un w M M') (hw : ∀ s, 11 ≤ s → s ≤ 16 → ¬ s = 12 → w 12 0 s = false) : LtM M' B n lt a := by
  cases lt with
  | none => exact (hU.I (hw _ (by decide) (by decide) (by decide))).trans h
  | some q => exact ⟨h.1, (hU.I (hw _ (by decide) (by decide) (by decide))).trans h.2.1, (hU.I (hw _ (by decide) (by decide) (by decide))).trans h.2.2⟩
theorem TkM.un {w : Nat → Nat → Nat → Bool} {M M' : Mem} {B : Nat → Nat} {n : Nat} (h : TkM M B n) (hU : Un w M M') (hw : ∀ k s, 69 ≤ k → k ≤ 72 → w k 0 s = false) : TkM M' B n := fun i hi => (h i hi).un hU hw
theorem PsM.un {w : Nat → Nat → Nat → Bool} {M M' : Mem} {B : Nat → Nat} {n : Nat} {e : Except Fa Ps} (h : PsM M B n e) (hU : Un w M M') (hw : ∀ s, 11 ≤ s → s ≤ 16 → ¬ s = 12 → w 12 0 s = false) (ht : ∀ k s, 69 ≤ k → k ≤ 72 → w k 0 s = false) : PsM M' B n e := by
  have u : ∀ s, 11 ≤ s → s ≤ 16 → ¬ s = 12 → mI M' 12 0 s = mI M 12 0 s := fun s h1 h2 h3 => hU.I (hw s h1 h2 h3)
  refine ⟨h.1.un hU ht, ?_⟩
  have h2 := h.2
  cases e with
  | error f => exact ⟨h2.1, ⟨h2.2.1.choose, h2.2.1.choose_spec.1, (u _ (by decide) (by decide) (by decide)).trans h2.2.1.choose_spec.2⟩, (u _ (by decide) (by decide) (by decide)).trans h2.2.2.1, (u _ (by decide) (by decide) (by decide)).trans h2.2.2.2⟩
  | ok s => exact ⟨h2.1, (u _ (by decide) (by decide) (by decide)).trans h2.2.1, (u _ (by decide) (by decide) (by decide)).trans h2.2.2.1, h2.2.2.2.un hU hw⟩
theorem TkM.me {M M' : Mem} {B : Nat → Nat} {n : Nat} (h : TkM M B n) (hU : Un wMe M M') : TkM M' B n := h.un hU (fun k s h1 h2 => by simp [wMe, nb_d]; omega)
theorem LtM.up {M : Mem} {B : Nat → Nat} {n : Nat} {lt : Option (Nat × Nat)} {a b : Nat} (h : LtM M B n lt a) (hab : a ≤ b) : LtM M B n lt b := by
  cases lt with
  | none => exact h
  | some q => exact ⟨⟨h.1.1, by have := h.1.2; omega⟩, h.2⟩
/-- a fault is there, or none -/
theorem rm_fault {M : Mem} {B : Nat → Nat} {n : Nat} {e : Except Fa Ps} (h : PsM M B n e) : (∃ f, e = .error f ∧ ¬ mI M 12 0 13 = 0 ∧ ¬ mI M 12 0 13 ≤ 0) ∨ ∃ s, e = .ok s ∧ mI M 12 0 13 = 0 ∧ mI M 12 0 11 = nI s.1 := by
  cases e with
  | error f =>
    refine Or.inl ⟨f, rfl, ?_⟩
    rw [h.2.2.2.1]
    rcases h.2.1.1 with q | q <;> (rw [q]; exact ⟨by decide, by decide⟩)
  | ok s => exact Or.inr ⟨s, rfl, h.2.2.2.1, h.2.2.1⟩
def isB (B : Nat → Nat) (n due : Nat) (e : Except Fa Ps) : Bool := match e with
  | .error _ => false
  | .ok s => decide (tkK B n s.1 = due)
theorem c_MD_is (Ω : Om) (M : Mem) (B : Nat → Nat) (n due m : Nat) (e : Except Fa Ps) (K : Ka) (hm : mkK due = m) (hd : due < 222) (hk : kdR due = true) (h : PsM M B n e) (hK : K (some (vI (bI (isB B n due e)))) M) : CallS Ω true m_MD_is [vR (some (12, 0)), vI (nI m)] M K := by
  refine call_go (hJL rfl) (Nat.le_of_ble_eq_true rfl) (go_wp ok_MD_is [] 250 _ _ _ _ _ _ ?_)
  rcases rm_fault h with ⟨f, rfl, e1, _⟩ | ⟨s, rfl, e1, e2⟩
  · refine And.intro (fun _ => ?_) (fun z => absurd z e1)
    conv => whnf
    exact And.intro (Or.inl rfl) hK
  · refine And.intro (fun z => absurd e1 z) (fun _ => ?_)
    have hr := h.2.1.1
    have h5 := hr.1
    conv => whnf
    rw [e2]
    refine And.intro (vp_in_nI (by omega) (by decide)) ?_
    rw [nI_clamp (by omega), (h.1 s.1 hr).1]
    refine And.intro (fun z => ?_) (fun z => ?_)
    · have z' : ¬ tkK B n s.1 = due := fun q => z ((mk_e hm hd hk).mpr q)
      have : isB B n due (.ok s) = false := decide_eq_false z'
      rw [this] at hK
      conv => whnf
      exact And.intro (Or.inl rfl) hK
    · have z' : tkK B n s.1 = due := (mk_e hm hd hk).mp z
      have : isB B n due (.ok s) = true := decide_eq_true z'
      rw [this] at hK
      conv => whnf
      exact And.intro (Or.inr rfl) hK
theorem c_MD_fail (Ω : Om) (M : Mem) (B : Nat → Nat) (n wh : Nat) (e : Except Fa Ps) (K : Ka) (hw : wh = 1 ∨ wh = 2) (h : PsM M B n e) (hK : ∀ M', Un wMe M M' → PsM M' B n (eb e fun s => .error (wh, s.1)) → K none M') : CallS Ω true m_MD_fail [vR (some (12, 0)), vI (nI wh)] M K := by
  refine call_go (hJL rfl) (Nat.le_of_ble_eq_true rfl) (go_wp ok_MD_fail [] 250 _ _ _ _ _ _ ?_)
  rcases rm_fault h with ⟨f, rfl, e1, e0⟩ | ⟨s, rfl, e1, e2⟩
  · refine And.intro (fun z => absurd z e0) (fun _ => ?_)
    exact hK M Un.rfl h
  · refine And.intro (fun _ => ?_) (fun z => absurd (show mI M 12 0 13 ≤ 0 by rw [e1]; decide) z)
    have hr := h.2.1.1
    have h5 := hr.1
    conv => whnf
    rw [mI_st rfl, e2]
    refine And.intro (vp_in_nI (by omega) (by decide)) ?_
    rw [nI_clamp (by omega), mI_ne rfl, (h.1 s.1 hr).2.1]
    have hU : Un wMe M (sI (sI M 12 0 13 (nI wh)) 12 0 14 (nI (psS B n s.1))) := (Un.rfl.pI rfl).pI rfl
    refine hK _ hU ⟨h.1.me hU, ⟨hw, hr⟩, ⟨s.1, h5, ?_⟩, ?_, mI_eq⟩
    · rw [mI_st rfl, mI_st rfl]; exact e2
    · rw [mI_st rfl, mI_eq]
theorem c_MD_goesOn (Ω : Om) (M : Mem) (B : Nat → Nat) (n : Nat) (s : Ps) (K : Ka) (hk : 2 ≤ tkK B n s.1) (h : PsM M B n (.ok s)) (hK : ∀ M', Un wMe M M' → PsM M' B n (if 500 ≤ s.1 then .error (2, s.1) else .ok (s.1 + 1, s.1, s.2.2)) → K none M') : CallS Ω true m_MD_goesOn [vR (some (12, 0))] M K := by
  obtain ⟨⟨hr, hp⟩, e11, e13, hl⟩ := h.2
  have h5 := hr.1
  refine call_go (hJL rfl) (Nat.le_of_ble_eq_true rfl) (go_wp ok_MD_goesOn [] 250 _ _ _ _ _ _ ?_)
  conv => whnf
  rw [e11]
  refine And.intro (fun z => ?_) (fun z => ?_)
  · have z : ¬ s.1 = 500 := fun q => z (by rw [q]; rfl)
    conv => whnf
    rw [e11, nI_1]
    rw [if_neg (by omega)] at hK
    have hU : Un wMe M (sI M 12 0 11 (nI (s.1 + 1))) := Un.rfl.pI rfl
    refine hK _ hU ⟨h.1.me hU, ⟨⟨by omega, fun i hi => ?_⟩, rfl⟩, mI_eq, ?_, ?_⟩
    · by_cases q : i = s.1
      · rw [q]; exact hk
      · exact hr.2 i (by omega)
    · rw [mI_st rfl]; exact e13
    · show LtM _ B n s.2.2 (s.1 + 1)
      have hl := hl.up (Nat.le_succ s.1)
      cases hs : s.2.2 with
      | none => rw [hs] at hl; exact Eq.trans (mI_st rfl) hl
      | some q => rw [hs] at hl; exact ⟨hl.1, Eq.trans (mI_st rfl) hl.2.1, Eq.trans (mI_st rfl) hl.2.2⟩
  · have z : s.1 = 500 := (nI_eq (by omega) (by omega)).mp (show nI s.1 = nI 500 from z)
    rw [if_pos (by omega)] at hK
    conv => whnf
    refine ⟨fun r M' => r = none ∧ Un wMe M M' ∧ PsM M' B n (eb (.ok s) fun s => .error (2, s.1)), c_MD_fail Ω M B n 2 (.ok s) _ (Or.inr rfl) h (fun M' a b => ⟨rfl, a, b⟩), trivial, ?_⟩
    rintro r M1 ⟨rfl, q1, q2⟩
    conv => whnf
    rw [eb_k] at q2
    exact hK M1 q1 q2
theorem c_MD_must (Ω : Om) (M : Mem) (B : Nat → Nat) (n due m : Nat) (e : Except Fa Ps) (K : Ka) (hm : mkK due = m) (hd : due < 222) (hk : kdR due = true) (hd2 : 2 ≤ due) (h : PsM M B n e) (hK : ∀ M', Un wMe M M' → PsM M' B n (eb e (tkS B n due)) → K none M') : CallS Ω true m_MD_must [vR (some (12, 0)), vI (nI m)] M K := by
  refine call_go (hJL rfl) (Nat.le_of_ble_eq_true rfl) (go_wp ok_MD_must [] 250 _ _ _ _ _ _ ?_)
  conv => whnf
  refine cl_use (fun K h' => c_MD_is Ω M B n due m e K hm hd hk h h') trivial ?_
  conv => whnf
  cases hb : isB B n due e with
  | false =>
    refine And.intro (fun _ => ?_) (fun z => absurd rfl z)
    conv => whnf
    refine ⟨fun r M' => r = none ∧ Un wMe M M' ∧ PsM M' B n (eb e fun s => .error (1, s.1)), c_MD_fail Ω M B n 1 e _ (Or.inl rfl) h (fun M' a b => ⟨rfl, a, b⟩), trivial, ?_⟩
    rintro r M1 ⟨rfl, q1, q2⟩
    conv => whnf
    refine hK M1 q1 ?_
    cases e with
    | error f => rw [eb_x] at q2 ⊢; exact q2
    | ok s =>
      have z : ¬ tkK B n s.1 = due := of_decide_eq_false hb
      rw [eb_k] at q2 ⊢
      unfold tkS
      rw [if_neg z]
      exact q2
  | true =>
    refine And.intro (fun z => absurd z (by decide)) (fun _ => ?_)
    cases e with
    | error f => cases hb
    | ok s =>
      have z : tkK B n s.1 = due := of_decide_eq_true hb
      conv => whnf
      refine ⟨fun r M' => r = none ∧ Un wMe M M' ∧ PsM M' B n (if 500 ≤ s.1 then .error (2, s.1) else .ok (s.1 + 1, s.1, s.2.2)), c_MD_goesOn Ω M B n s _ (by omega) h (fun M' a b => ⟨rfl, a, b⟩), trivial, ?_⟩
      rintro r M1 ⟨rfl, q1, q2⟩
      conv => whnf
      refine hK M1 q1 ?_
      rw [eb_k]
      unfold tkS
      rw [if_pos z]
      exact q2
/-- the faults that count late: the least place stays -/
theorem c_MD_wrong (Ω : Om) (M : Mem) (B : Nat → Nat) (n k : Nat) (s : Ps) (K : Ka) (hn : n ≤ 2000) (hk : k = 3 ∨ k = 4 ∨ k = 5) (h1 : 1 ≤ s.1) (hq : ∀ q, s.2.2 = some q → q.2 < s.2.1) (h : PsM M B n (.ok s)) (hK : ∀ M', Un wMe M M' → PsM M' B n (.ok (blS k true s)) → K none M') : CallS Ω true m_MD_wrong [vR (some (12, 0)), vI (nI k), vI (nI s.2.1)] M K := by
  obtain ⟨⟨hr, hp⟩, e11, e13, hl⟩ := h.2
  have h5 := hr.1
  have hri : rch B n s.2.1 := ⟨by omega, fun i hi => hr.2 i (by omega)⟩
  refine call_go (hJL rfl) (Nat.le_of_ble_eq_true rfl) (go_wp ok_MD_wrong [] 250 _ _ _ _ _ _ ?_)
  refine And.intro (vp_in_nI (by omega) (by decide)) ?_
  rw [nI_clamp (by omega), (h.1 _ hri).2.1]
  conv => whnf
  have hpl := ps_le B n s.2.1
  refine And.intro (fun z => absurd z (by rw [e13]; decide)) (fun _ => ?_)
  conv => whnf
  cases hs : s.2.2 with
  | none =>
    rw [hs] at hl
    have hl : mI M 12 0 15 = 0 := hl
    refine And.intro (fun _ => ?_) (fun z => absurd hl z)
    conv => whnf
    have hU : Un wMe M (sI (sI M 12 0 15 (nI k)) 12 0 16 (nI (psS B n s.2.1))) := (Un.rfl.pI rfl).pI rfl
    refine hK _ hU ⟨h.1.me hU, ⟨hr, hp⟩, ?_, ?_, ?_⟩
    · rw [mI_st rfl, mI_st rfl]; exact e11
    · rw [mI_st rfl, mI_st rfl]; exact e13
    · show LtM _ B n (some (s.2.2.getD (k, s.2.1))) s.1
      rw [hs]
      exact ⟨⟨hk, by show s.2.1 < s.1; omega⟩, (mI_st rfl).trans mI_eq, mI_eq⟩
  | some q =>
    have hlt := hq q hs
    rw [hs] at hl
    obtain ⟨⟨g1, g2⟩, g3, g4⟩ := hl
    refine And.intro (fun z => absurd z (by rw [g3]; rcases g1 with g | g | g <;> (rw [g]; decide))) (fun _ => ?_)
    conv => whnf
    rw [g4]
    have hps := rch_lt hri _ hlt
    refine And.intro (fun _ => ?_) (fun z => absurd (show nI (psS B n q.2) < nI (psS B n s.2.1) from by rw [nI_ltI (by omega) (by omega)]; exact hps) z)
    refine hK M Un.rfl ⟨h.1, ⟨hr, hp⟩, e11, e13, ?_⟩
    show LtM _ B n (some (s.2.2.getD (k, s.2.1))) s.1
    rw [hs]
    exact ⟨⟨g1, g2⟩, g3, g4⟩
/-- a number, with its sign where one may stand -/
def numS (B : Nat → Nat) (n : Nat) (z : Bool) (s : Ps) : Except Fa (Ps × Int32) := if z = true ∧ tkK B n s.1 = 45 then eb (tkS B n 45 s) fun s => eb (tkS B n 3 s) fun s => .ok (s, -1 * (tkV B n s.2.1).toInt32) else eb (tkS B n 3 s) fun s => .ok (s, 1 * (tkV B n s.2.1).toInt32)
def w58 (k _i s : Nat) : Bool := Nat.beq k 12 && Nat.beq s 58
theorem nu_tail {Ω : Om} {K : Ka} {M : Mem} {B : Nat → Nat} {n : Nat} {z : Bool} {sg : Int32} {e : Except Fa Ps} (h : PsM M B n e)
    (hK : ∀ M' v, Un wMn M M' → PsM M' B n (eb e (tkS B n 3)) → (∀ s, eb e (tkS B n 3) = .ok s → v = sg * (tkV B n s.2.1).toInt32 ∧ mI M' 12 0 58 = nI s.2.1) → K (some (vI v)) M') :
    GoS Ω true m_MD_number K 36 [some (vR (some (12, 0))), some (vI (bI z)), some (vI sg), none] [] M 0 0 := by
  refine go_wp ok_MD_number [] 250 _ _ _ _ _ _ ?_
  conv => whnf
  generalize hM1 : sI M 12 0 58 (mI M 12 0 11) = M1
  have U1 : Un w58 M M1 := by rw [← hM1]; exact Un.rfl.pI rfl
  have V1 : Un wMn M M1 := by rw [← hM1]; exact Un.rfl.pI rfl
  have g58 : mI M1 12 0 58 = mI M 12 0 11 := by rw [← hM1, mI_eq]
  clear hM1
  have P1 : PsM M1 B n e := h.un U1 (fun s h1 h2 _ => by simp [w58, nb_d]; omega) (fun k s h1 h2 => by simp [w58, nb_d]; omega)
  refine cl_use (fun K h' => c_MD_is Ω M1 B n 3 2 e K rfl (by decide) rfl P1 h') trivial ?_
  conv => whnf
  have fin : ∀ x : Int32, (∀ s, e = .ok s → tkK B n s.1 = 3 → x = (tkV B n s.1).toInt32) → CallS Ω true m_MD_must [vR (some (12, 0)), vI (nI 2)] M1 (fun r M' => r = none ∧ K (some (vI (sg * x))) M') := fun x hx => by
    refine c_MD_must Ω M1 B n 3 2 e _ rfl (by decide) rfl (by decide) P1 (fun M' a b => ⟨rfl, hK M' _ (V1.trans (a.mono wMn_me)) b (fun s hs => ?_)⟩)
    obtain ⟨s0, rfl, h2⟩ := eb_ok hs
    obtain ⟨h3, h4, rfl⟩ := tkS_ok h2
    refine ⟨by rw [hx s0 rfl h3], ?_⟩
    show mI M' 12 0 58 = nI s0.1
    rw [a.I rfl, g58]
    exact h.2.2.1
  cases hb : isB B n 3 e with
  | false =>
    refine And.intro (fun _ => ?_) (fun z => absurd rfl z)
    conv => whnf
    refine ⟨_, fin 0 (fun s hs hk => ?_), trivial, ?_⟩
    · subst hs
      have := of_decide_eq_false hb
      exact absurd hk this
    · rintro r M2 ⟨rfl, q⟩
      conv => whnf
      exact q
  | true =>
    refine And.intro (fun z => absurd z (by decide)) (fun _ => ?_)
    cases e with
    | error f => cases hb
    | ok s =>
      have hk : tkK B n s.1 = 3 := of_decide_eq_true hb
      have hr := P1.2.1.1
      have h5 := hr.1
      conv => whnf
      rw [P1.2.2.1]
      refine And.intro (vp_in_nI (by omega) (by decide)) ?_
      rw [nI_clamp (by omega)]
      conv => whnf
      refine ⟨_, fin (mI M1 71 0 s.1) (fun s' hs hk' => ?_), trivial, ?_⟩
      · cases hs
        have := (P1.1 s.1 hr).2.2.1 hk
        rw [← this, Int32.toInt32_toInt64]
      · rintro r M2 ⟨rfl, q⟩
        conv => whnf
        exact q
