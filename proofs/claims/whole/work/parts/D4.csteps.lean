/-! READ: the class's reader: steps, and signs that wait -/
def StpC (M : Mem) (t : Nat) (xs : List (Int32 × Int32)) : Prop := (mI M 0 t 2 = nI xs.length ∧ xs.length ≤ 500) ∧ SpC M t 0 xs
def San4 (M : Mem) (t : Nat) : Prop := ∃ c, c ≤ 500 ∧ mI M 0 t 2 = nI c
def wSp (t k i s : Nat) : Bool := Nat.beq i t && (Nat.beq k 13 || (Nat.beq k 14 || (Nat.beq k 0 && Nat.beq s 2)))
theorem SpC.at {M : Mem} {t : Nat} : ∀ {xs : List (Int32 × Int32)} {q j : Nat}, SpC M t q xs → j < xs.length → mI M 13 t (q + j) = (xs.getD j (0, 0)).1 ∧ mI M 14 t (q + j) = (xs.getD j (0, 0)).2 := by
  intro xs
  induction xs with
  | nil => intro q j _ h; exact absurd h (Nat.not_lt_zero _)
  | cons x xs ih =>
    intro q j h hj
    cases j with
    | zero => exact h.1
    | succ j =>
      have := ih (j := j) h.2 (by simpa using hj)
      rw [show q + 1 + j = q + (j + 1) by omega] at this
      exact this
theorem SpC.of {M : Mem} {t : Nat} : ∀ {xs : List (Int32 × Int32)} {q : Nat}, (∀ j, j < xs.length → mI M 13 t (q + j) = (xs.getD j (0, 0)).1 ∧ mI M 14 t (q + j) = (xs.getD j (0, 0)).2) → SpC M t q xs := by
  intro xs
  induction xs with
  | nil => intro q _; trivial
  | cons x xs ih =>
    intro q h
    refine ⟨h 0 (by simp), ih (fun j hj => ?_)⟩
    have := h (j + 1) (by simp; omega)
    rw [show q + (j + 1) = q + 1 + j by omega] at this
    exact this
theorem c_addStep (Ω : Om) (M : Mem) (t : Nat) (x y : Int32) (K : Ka) (hS : San4 M t) (hK : ∀ M', Un (wSp t) M M' → San4 M' t → (∀ xs, StpC M t xs → xs.length < 500 → StpC M' t (xs ++ [(x, y)])) → K none M') : CallS Ω true m_Bars_addStep [vR (some (0, t)), vI x, vI y] M K := by
  obtain ⟨c, hc, h2⟩ := hS
  refine call_go (hJL rfl) (Nat.le_of_ble_eq_true rfl) (go_wp ok_Bars_addStep [] 250 _ _ _ _ _ _ ?_)
  conv => whnf
  rw [h2]
  refine And.intro (fun z => ?_) (fun z => ?_)
  · have z : nI 500 ≤ nI c := z
    rw [nI_leI (by omega) (by omega)] at z
    refine hK M Un.rfl ⟨c, hc, h2⟩ (fun xs hx hl => ?_)
    have := hx.1.1
    rw [h2] at this
    have := (nI_eq (by omega) (by omega)).mp this
    omega
  · have z : ¬ nI 500 ≤ nI c := z
    rw [nI_leI (by omega) (by omega)] at z
    conv => whnf
    rw [h2]
    refine And.intro (vp_in_nI (by omega) (by decide)) ?_
    rw [nI_clamp (by omega)]
    conv => whnf
    rw [mI_ne rfl, h2]
    refine And.intro (vp_in_nI (by omega) (by decide)) ?_
    rw [nI_clamp (by omega)]
    conv => whnf
    rw [mI_ne rfl, mI_ne rfl, h2, nI_1]
    refine hK _ (((Un.rfl.pI (by simp [wSp, nb_d])).pI (by simp [wSp, nb_d])).pI (by simp [wSp, nb_d])) ⟨c + 1, by omega, mI_eq⟩ (fun xs hx hl => ?_)
    have e := hx.1.1
    rw [h2] at e
    have e : c = xs.length := (nI_eq (by omega) (by omega)).mp e
    subst e
    refine ⟨⟨by rw [mI_eq, List.length_append]; rfl, by rw [List.length_append]; show xs.length + 1 ≤ 500; omega⟩, SpC.of (fun j hj => ?_)⟩
    rw [List.length_append] at hj
    have hj : j < xs.length + 1 := hj
    rw [Nat.zero_add, mI_ne (k := 0) rfl, mI_ne (k := 0) rfl]
    by_cases y' : j = xs.length
    · subst y'
      rw [List.getD_eq_getElem?_getD, List.getElem?_append_right (Nat.le_refl _), Nat.sub_self, mI_ne (k := 14) rfl, mI_eq, mI_eq]
      exact ⟨rfl, rfl⟩
    · have := hx.2.at (show j < xs.length by omega)
      rw [Nat.zero_add] at this
      rw [List.getD_eq_getElem?_getD, List.getElem?_append_left (by omega), ← List.getD_eq_getElem?_getD, mI_ne (k := 14) rfl, mI_sI, if_neg (fun q => y' q.2.2), mI_sI, if_neg (fun q => y' q.2.2), mI_ne (k := 13) rfl]
      exact this
def rkI (v : Int32) : Int32 := if v = 42 ∨ v = 47 then 2 else if v = 43 ∨ v = 45 then 1 else 0
theorem rkI_n {p : Nat} (h : p < 256) : rkI (nI p) = nI (rk p) := by
  have e : ∀ v, v < 256 → (nI p = nI v ↔ p = v) := fun v hv => nI_eq (by omega) (by omega)
  unfold rkI rk
  have e1 := or_congr (e 42 (by decide)) (e 47 (by decide))
  have e2 := or_congr (e 43 (by decide)) (e 45 (by decide))
  by_cases c : p = 42 ∨ p = 47
  · rw [if_pos (show nI p = 42 ∨ nI p = 47 from e1.mpr c), if_pos c]; rfl
  · rw [if_neg (show ¬ (nI p = 42 ∨ nI p = 47) from fun q => c (e1.mp q)), if_neg c]
    by_cases d : p = 43 ∨ p = 45
    · rw [if_pos (show nI p = 43 ∨ nI p = 45 from e2.mpr d), if_pos d]; rfl
    · rw [if_neg (show ¬ (nI p = 43 ∨ nI p = 45) from fun q => d (e2.mp q)), if_neg d]; rfl
theorem c_rankOf (Ω : Om) (M : Mem) (v : Int32) (K : Ka) (h : K (some (vI (rkI v))) M) : CallS Ω true m_Reader_rankOf [vI v] M K := by
  unfold rkI at h
  refine call_go (hJL rfl) (Nat.le_of_ble_eq_true rfl) (go_wp ok_Reader_rankOf [] 250 _ _ _ _ _ _ ?_)
  refine And.intro (fun a => ?_) (fun a => And.intro (fun b => And.intro (fun c => ?_) (fun c => And.intro (fun d => ?_) (fun d => ?_))) (fun b => ?_))
  · rw [if_pos (Or.inl a)] at h; exact h
  · rw [if_neg (fun q => q.elim a b), if_pos (Or.inl c)] at h; exact h
  · rw [if_neg (fun q => q.elim a b), if_neg (fun q => q.elim c d)] at h; exact h
  · rw [if_neg (fun q => q.elim a b), if_pos (Or.inr d)] at h; exact h
  · rw [if_pos (Or.inr b)] at h; exact h
/-- the signs that wait, in the class: the last one first -/
def PnC (M : Mem) (P : List Nat) : Prop := (mI M 4 0 9 = nI P.length ∧ P.length ≤ 32) ∧ (∀ p, p ∈ P → p < 256) ∧ ∀ j, j < P.length → mI M 29 0 (P.length - 1 - j) = nI (P.getD j 0)
def San5 (M : Mem) : Prop := ∃ c, c ≤ 32 ∧ mI M 4 0 9 = nI c
def wPn (k _i s : Nat) : Bool := Nat.beq k 29 || (Nat.beq k 4 && Nat.beq s 9)
theorem c_waitFor (Ω : Om) (M : Mem) (p : Int32) (K : Ka) (hS : San5 M) (hK : ∀ M', Un wPn M M' → San5 M' → (∀ P k, PnC M P → P.length < 32 → p = nI k → k < 256 → PnC M' (k :: P)) → K none M') : CallS Ω true m_Reader_waitFor [vR (some (4, 0)), vI p] M K := by
  obtain ⟨c, hc, h2⟩ := hS
  refine call_go (hJL rfl) (Nat.le_of_ble_eq_true rfl) (go_wp ok_Reader_waitFor [] 250 _ _ _ _ _ _ ?_)
  conv => whnf
  rw [h2]
  refine And.intro (fun z => ?_) (fun z => ?_)
  · have z : nI 32 ≤ nI c := z
    rw [nI_leI (by omega) (by omega)] at z
    refine hK M Un.rfl ⟨c, hc, h2⟩ (fun P k hP hl _ _ => ?_)
    have := hP.1.1
    rw [h2] at this
    have := (nI_eq (by omega) (by omega)).mp this
    omega
  · have z : ¬ nI 32 ≤ nI c := z
    rw [nI_leI (by omega) (by omega)] at z
    conv => whnf
    rw [h2]
    refine And.intro (vp_in_nI (by omega) (by decide)) ?_
    rw [nI_clamp (by omega)]
    conv => whnf
    rw [mI_ne rfl, h2, nI_1]
    refine hK _ ((Un.rfl.pI rfl).pI rfl) ⟨c + 1, by omega, mI_eq⟩ (fun P k hP hl hp hk => ?_)
    have e := hP.1.1
    rw [h2] at e
    have e : c = P.length := (nI_eq (by omega) (by omega)).mp e
    subst e
    refine ⟨⟨by rw [mI_eq]; rfl, by show P.length + 1 ≤ 32; omega⟩, fun p' hp' => ?_, fun j hj => ?_⟩
    · rcases List.mem_cons.mp hp' with rfl | h
      · exact hk
      · exact hP.2.1 p' h
    · have hj : j < P.length + 1 := hj
      rw [mI_ne rfl, show (k :: P).length - 1 - j = P.length - j by simp]
      cases j with
      | zero => rw [Nat.sub_zero, mI_eq]; exact hp
      | succ j =>
        rw [mI_sI, if_neg (fun q => by omega)]
        have := hP.2.2 j (by omega)
        rw [show P.length - 1 - j = P.length - (j + 1) by omega] at this
        exact this
def wRl (t k i s : Nat) : Bool := wSp t k i s || (Nat.beq k 4 && Nat.beq s 9)
theorem wRl_sp {t : Nat} : ∀ k i s, wRl t k i s = false → wSp t k i s = false := fun k i s h => (Bool.or_eq_false_iff.mp h).1
theorem wd_op {p q : Nat} (h : q ≤ rk p) (hq : 1 ≤ q) : wdC (opc p, 0) = (nI p, 0) := by
  have : p = 42 ∨ p = 47 ∨ p = 43 ∨ p = 45 := by
    unfold rk at h
    split at h
    · omega
    · split at h <;> omega
  rcases this with rfl | rfl | rfl | rfl <;> rfl
theorem c_release (Ω : Om) (M : Mem) (t r : Nat) (K : Ka) (hr : r = 1 ∨ r = 2) (hS4 : San4 M t) (hS5 : San5 M) (hK : ∀ M', Un (wRl t) M M' → San4 M' t → San5 M' → (∀ P, PnC M P → PnC M' (rlP r P)) → (∀ P xs, PnC M P → StpC M t xs → xs.length + (rlC r P).length ≤ 500 → StpC M' t (xs ++ (rlC r P).map wdC)) → K none M') : CallS Ω true m_Reader_release [vR (some (4, 0)), vR (some (0, t)), vI (nI r)] M K := by
  have lp : ∀ (c : Nat) (M1 : Mem) (x : Int32), c ≤ 32 → mI M1 4 0 9 = nI c → x = nI c - 1 → Un (wRl t) M M1 → San4 M1 t →
      (∀ M', Un (wRl t) M M' → San4 M' t → San5 M' → (∀ P, PnC M1 P → PnC M' (rlP r P)) → (∀ P xs, PnC M1 P → StpC M1 t xs → xs.length + (rlC r P).length ≤ 500 → StpC M' t (xs ++ (rlC r P).map wdC)) → K none M') →
      GoS Ω true m_Reader_release K 7 [some (vR (some (4, 0))), some (vR (some (0, t))), some (vI (nI r)), some (vI x)] [] M1 0 0 := by
    intro c
    induction c with
    | zero =>
      intro M1 x hc h9 hx hU hS4 hK
      subst hx
      refine go_wp ok_Reader_release [] 250 _ _ _ _ _ _ ?_
      refine And.intro (fun _ => ?_) (fun q => absurd (show nI 0 - 1 < 0 by decide) q)
      have nil : ∀ P, PnC M1 P → P = [] := fun P hP => by
        have := hP.1.1
        rw [h9] at this
        exact List.eq_nil_of_length_eq_zero ((nI_eq (by decide) (by have := hP.1.2; omega)).mp this).symm
      refine hK M1 hU hS4 ⟨0, by decide, h9⟩ (fun P hP => ?_) (fun P xs hP hx _ => ?_)
      · rw [nil P hP]; rw [nil P hP] at hP; exact hP
      · rw [nil P hP, show rlC r [] = [] from rfl, List.map_nil, List.append_nil]; exact hx
    | succ c ih =>
      intro M1 x hc h9 hx hU hS4 hK
      rw [nI_pred] at hx
      subst hx
      have top : ∀ P, PnC M1 P → ∃ p P', P = p :: P' ∧ P'.length = c ∧ p < 256 ∧ mI M1 29 0 c = nI p := fun P hP => by
        have e := hP.1.1
        rw [h9] at e
        have e := (nI_eq (by omega) (by have := hP.1.2; omega)).mp e
        match P, e with
        | p :: P', e =>
          have e : c + 1 = P'.length + 1 := e
          have h0 := hP.2.2 0 (by simp)
          rw [show (p :: P').length - 1 - 0 = c by simp; omega] at h0
          exact ⟨p, P', rfl, by omega, hP.2.1 p List.mem_cons_self, h0⟩
      refine go_wp ok_Reader_release [7] 250 _ _ _ _ _ _ ?_
      refine And.intro (fun q => absurd q (nI_pos (by omega))) (fun _ => And.intro (fun q => absurd q (nI_ge (b := 32) (by omega) (by decide))) (fun _ => ?_))
      conv => whnf
      refine And.intro (vp_in_nI (by omega) (by decide)) ?_
      rw [nI_clamp (by omega)]
      refine cl_use (fun K h => c_rankOf Ω M1 _ K h) trivial ?_
      refine And.intro (fun q => ?_) (fun q => ?_)
      · have both : ∀ P, PnC M1 P → rlP r P = P ∧ rlC r P = [] := fun P hP => by
          obtain ⟨p, P', rfl, e1, e2, e3⟩ := top P hP
          rw [e3, rkI_n e2, nI_ltI (by unfold rk; split; decide; split <;> decide) (by omega)] at q
          exact ⟨by rw [rlP, if_neg (by omega)], by rw [rlC, if_neg (by omega)]⟩
        refine hK M1 hU hS4 ⟨c + 1, hc, h9⟩ (fun P hP => ?_) (fun P xs hP hx _ => ?_)
        · rw [(both P hP).1]; exact hP
        · rw [(both P hP).2, List.map_nil, List.append_nil]; exact hx
      · conv => whnf
        refine And.intro (vp_in_nI (by omega) (by decide)) ?_
        rw [nI_clamp (by omega)]
        refine ⟨fun r' M' => r' = none ∧ Un (wSp t) M1 M' ∧ San4 M' t ∧ (∀ xs, StpC M1 t xs → xs.length < 500 → StpC M' t (xs ++ [(mI M1 29 0 c, 0)])), c_addStep Ω M1 t _ 0 _ hS4 (fun M' a b c => ⟨rfl, a, b, c⟩), trivial, ?_⟩
        rintro r' M2 ⟨rfl, U2, S2, A2⟩
        conv => whnf
        have w9 : wRl t 4 0 9 = true := by simp [wRl, nb_d]
        have U3 : Un (fun k i s => Nat.beq k 4 && Nat.beq s 9) M2 (sI M2 4 0 9 (nI c)) := Un.rfl.pI rfl
        have hU3 : Un (wRl t) M (sI M2 4 0 9 (nI c)) := (hU.trans (U2.mono wRl_sp)).pI w9
        have S3 : San4 (sI M2 4 0 9 (nI c)) t := by
          obtain ⟨d, a, b⟩ := S2
          exact ⟨d, a, (mI_ne rfl).trans b⟩
        have fact : ∀ P, PnC M1 P → ∃ p P', P = p :: P' ∧ PnC (sI M2 4 0 9 (nI c)) P' ∧ rlP r P = rlP r P' ∧ rlC r P = (opc p, 0) :: rlC r P' ∧ wdC (opc p, 0) = (mI M1 29 0 c, 0) := fun P hP => by
          obtain ⟨p, P', rfl, e1, e2, e3⟩ := top P hP
          have q2 : r ≤ rk p := by
            rw [e3, rkI_n e2, nI_ltI (by unfold rk; split; decide; split <;> decide) (by omega)] at q
            omega
          refine ⟨p, P', rfl, ⟨⟨by rw [mI_eq, e1], by omega⟩, fun p' hp' => hP.2.1 p' (List.mem_cons_of_mem _ hp'), fun j hj => ?_⟩, by rw [rlP, if_pos q2], by rw [rlC, if_pos q2], by rw [wd_op q2 (by omega), e3]⟩
          have := hP.2.2 (j + 1) (by simp; omega)
          rw [show (p :: P').length - 1 - (j + 1) = P'.length - 1 - j by simp; omega] at this
          rw [mI_ne rfl, U2.I (by simp [wSp, nb_d])]
          exact this
        refine ih (sI M2 4 0 9 (nI c)) (nI c + -1) (by omega) mI_eq (by grind) hU3 S3 (fun M' a b d f1 f2 => hK M' a b d (fun P hP => ?_) (fun P xs hP hx hl => ?_))
        · obtain ⟨p, P', rfl, g1, g2, g3, g4⟩ := fact P hP
          rw [g2]
          exact f1 P' g1
        · obtain ⟨p, P', rfl, g1, g2, g3, g4⟩ := fact P hP
          rw [g3] at hl ⊢
          have hl : xs.length + ((rlC r P').length + 1) ≤ 500 := hl
          have A3 := A2 xs hx (by omega)
          rw [← g4] at A3
          have := f2 P' (xs ++ [wdC (opc p, 0)]) g1 ⟨⟨(mI_ne rfl).trans A3.1.1, A3.1.2⟩, A3.2.un U3 (fun _ _ => rfl) (fun _ _ => rfl)⟩ (by rw [List.length_append]; show xs.length + 1 + _ ≤ 500; omega)
          rw [List.append_assoc] at this
          exact this
  obtain ⟨c, hc, h9⟩ := id hS5
  refine call_go (hJL rfl) (Nat.le_of_ble_eq_true rfl) (go_wp ok_Reader_release [7] 250 _ _ _ _ _ _ ?_)
  conv => whnf
  rw [h9]
  exact lp c M (nI c - 1) hc h9 rfl Un.rfl hS4 hK
