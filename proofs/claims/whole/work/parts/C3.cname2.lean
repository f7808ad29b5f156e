/-! READ: the class's reader: names -/
/-- the first of a name, from the i-th on -/
def niS (f : Nat → Int64) (x : Int64) : Nat → Nat → Option Nat
  | 0, _ => none
  | m + 1, i => if f i = x then some i else niS f x m (i + 1)
def nmD : Int64 × Nat × Nat := (0, 0, 0)
/-- the names told, in the class -/
def NmC (M : Mem) (t : Nat) (N : Nm) : Prop := mI M 7 t 11 = nI N.length ∧ ∀ j, j < N.length → mJ M 46 t j = (N.getD j nmD).1 ∧ mI M 47 t j = nI (N.getD j nmD).2.1 ∧ mI M 48 t j = nI (N.getD j nmD).2.2 ∧ (N.getD j nmD).2.1 < 300 ∧ (N.getD j nmD).2.2 < 100
theorem NmC.un {w : Nat → Nat → Nat → Bool} {M M' : Mem} {t : Nat} {N : Nm} (h : NmC M t N) (hU : Un w M M') (h1 : w 7 t 11 = false) (h2 : ∀ k s, k = 46 ∨ k = 47 ∨ k = 48 → w k t s = false) : NmC M' t N := ⟨(hU.I h1).trans h.1, fun j hj => by
  obtain ⟨a, b, c, d⟩ := h.2 j hj
  exact ⟨(hU.J (h2 _ _ (by omega))).trans a, (hU.I (h2 _ _ (by omega))).trans b, (hU.I (h2 _ _ (by omega))).trans c, d⟩⟩
theorem ni_find {f : Nat → Int64} {x : Int64} : ∀ (N : Nm) (i : Nat), (∀ j, j < N.length → f (i + j) = (N.getD j nmD).1) → (∀ k, niS f x N.length i = some k → ∃ j, k = i + j ∧ j < N.length ∧ N.find? (fun q => decide (q.1 = x)) = some (N.getD j nmD)) ∧ (niS f x N.length i = none → N.find? (fun q => decide (q.1 = x)) = none ∧ nmI N x = false) ∧ ((niS f x N.length i).isSome = nmI N x) := by
  intro N
  induction N with
  | nil => intro i _; exact ⟨(fun k h => by cases h), fun _ => ⟨rfl, rfl⟩, rfl⟩
  | cons q N ih =>
    intro i h
    have h0 := h 0 (by simp)
    have e0 : f i = q.1 := h0
    have ih := ih (i + 1) (fun j hj => by
      have := h (j + 1) (by simp; omega)
      rw [show i + (j + 1) = i + 1 + j by omega] at this
      exact this)
    show (∀ k, niS f x (N.length + 1) i = some k → _) ∧ (niS f x (N.length + 1) i = none → _) ∧ ((niS f x (N.length + 1) i).isSome = _)
    by_cases c : f i = x
    · have e1 : niS f x (N.length + 1) i = some i := by rw [niS, if_pos c]
      have e2 : decide (q.1 = x) = true := decide_eq_true (e0 ▸ c)
      rw [e1]
      refine ⟨fun k hk => ⟨0, (by cases hk; rfl), by simp, ?_⟩, (fun hk => by cases hk), ?_⟩
      · rw [List.find?_cons, e2]; rfl
      · unfold nmI
        rw [List.any_cons, e2]; rfl
    · have e1 : niS f x (N.length + 1) i = niS f x N.length (i + 1) := by rw [niS, if_neg c]
      have e2 : decide (q.1 = x) = false := decide_eq_false (fun z => c (e0.trans z))
      rw [e1]
      refine ⟨fun k hk => ?_, fun hk => ?_, ?_⟩
      · obtain ⟨j, a, b, d⟩ := ih.1 k hk
        refine ⟨j + 1, by omega, by simp; omega, ?_⟩
        rw [List.find?_cons, e2]
        exact d
      · obtain ⟨a, b⟩ := ih.2.1 hk
        refine ⟨by rw [List.find?_cons, e2]; exact a, ?_⟩
        unfold nmI at b ⊢
        rw [List.any_cons, e2]
        exact b
      · rw [ih.2.2]
        unfold nmI
        rw [List.any_cons, e2]
        rfl
theorem c_nameIndex (Ω : Om) (M : Mem) (t c : Nat) (x : Int64) (K : Ka) (hc : c ≤ 24) (h11 : mI M 7 t 11 = nI c) (h : K (some (vI (hI (niS (fun i => mJ M 46 t i) x c 0)))) M) : CallS Ω true m_Text_nameIndex [vR (some (7, t)), vJ x] M K := by
  have lp : ∀ (m i : Nat), i + m = c → niS (fun i => mJ M 46 t i) x m i = niS (fun i => mJ M 46 t i) x c 0 → GoS Ω true m_Text_nameIndex K 2 [some (vR (some (7, t))), some (vJ x), none, some (vI (nI i))] [] M 0 0 := by
    intro m
    induction m with
    | zero =>
      intro i hi he
      rw [← he] at h
      refine go_wp ok_Text_nameIndex [] 250 _ _ _ _ _ _ ?_
      refine And.intro (fun _ => h) (fun q => ?_)
      rw [h11, nI_leI (by omega) (by omega)] at q; omega
    | succ m ih =>
      intro i hi he
      rw [niS] at he
      refine go_wp ok_Text_nameIndex [2] 250 _ _ _ _ _ _ ?_
      refine And.intro (fun q => ?_) (fun _ => ?_)
      · rw [h11, nI_leI (by omega) (by omega)] at q; omega
      conv => whnf
      refine And.intro (vp_in_nI (by omega) (by decide)) ?_
      rw [nI_clamp (by omega)]
      refine And.intro (fun q => ?_) (fun q => ?_)
      · have q : ¬ mJ M 46 t i = x := fun z => q ((lg_cmp_eq _ _).mpr z)
        rw [if_neg q] at he
        conv => whnf
        have := ih (i + 1) (by omega) he
        rw [← nI_1] at this
        exact this
      · have q : mJ M 46 t i = x := (lg_cmp_eq _ _).mp q
        rw [if_pos q] at he
        rw [← he] at h
        exact h
  refine call_go (hJL rfl) (Nat.le_of_ble_eq_true rfl) (go_wp ok_Text_nameIndex [2] 250 _ _ _ _ _ _ ?_)
  exact lp c 0 (by omega) rfl
theorem niS_lt {f : Nat → Int64} {x : Int64} : ∀ m i k, niS f x m i = some k → i ≤ k ∧ k < i + m := by
  intro m
  induction m with
  | zero => intro i k h; cases h
  | succ m ih =>
    intro i k h
    rw [niS] at h
    split at h
    · cases h; omega
    · have := ih (i + 1) k h; omega
/-- the names' room -/
def San1 (M : Mem) (t : Nat) : Prop := ∃ c, c ≤ 24 ∧ mI M 7 t 11 = nI c
theorem c_numberNamed (Ω : Om) (M : Mem) (t so : Nat) (x : Int64) (K : Ka) (hS : San1 M t) (hso : so < 300) (h : ∀ v, (∀ N, NmC M t N → N.length ≤ 24 → v = hI (nmF N x so)) → K (some (vI v)) M) : CallS Ω true m_Text_numberNamed [vR (some (7, t)), vJ x, vI (nI so)] M K := by
  obtain ⟨c, hc, h11⟩ := hS
  have hN : ∀ N, NmC M t N → N.length ≤ 24 → N.length = c := fun N hN hl => by
    have := hN.1
    rw [h11] at this
    exact ((nI_eq (by omega) (by omega)).mp this).symm
  refine call_go (hJL rfl) (Nat.le_of_ble_eq_true rfl) (go_wp ok_Text_numberNamed [] 250 _ _ _ _ _ _ ?_)
  conv => whnf
  refine cl_use (fun K h => c_nameIndex Ω M t c x K hc h11 h) trivial ?_
  conv => whnf
  cases hr : niS (fun i => mJ M 46 t i) x c 0 with
  | none =>
    refine And.intro (fun _ => ?_) (fun q => absurd (show (-1 : Int32) < 0 by decide) q)
    refine h (-1) (fun N hn hl => ?_)
    have e := hN N hn hl
    have := (ni_find (f := fun i => mJ M 46 t i) (x := x) N 0 (fun j hj => by rw [Nat.zero_add]; exact (hn.2 j hj).1)).2.1 (by rw [e]; exact hr)
    unfold nmF
    rw [this.1]
    rfl
  | some k =>
    have hk := niS_lt _ _ _ hr
    refine And.intro (fun q => absurd q (nI_pos (n := k) (by omega))) (fun _ => And.intro (fun q => absurd q (nI_ge (b := 24) (by omega) (by decide))) (fun _ => ?_))
    conv => whnf
    refine And.intro (vp_in_nI (n := k) (by omega) (by decide)) ?_
    rw [show (hI (some k)).toNatClampNeg = k from nI_clamp (n := k) (by omega)]
    have fact : ∀ N, NmC M t N → N.length ≤ 24 → nmF N x so = (if (N.getD k nmD).2.1 = so then some (N.getD k nmD).2.2 else none) ∧ mI M 47 t k = nI (N.getD k nmD).2.1 ∧ mI M 48 t k = nI (N.getD k nmD).2.2 ∧ (N.getD k nmD).2.1 < 300 := fun N hn hl => by
      have e := hN N hn hl
      obtain ⟨j, e1, e2, e3⟩ := (ni_find (f := fun i => mJ M 46 t i) (x := x) N 0 (fun j hj => by rw [Nat.zero_add]; exact (hn.2 j hj).1)).1 k (by rw [e]; exact hr)
      rw [Nat.zero_add] at e1
      subst e1
      obtain ⟨a, b, c', d, _⟩ := hn.2 k e2
      unfold nmF
      rw [e3]
      exact ⟨rfl, b, c', d⟩
    refine And.intro (fun q => ?_) (fun q => ?_)
    · refine h (-1) (fun N hn hl => ?_)
      obtain ⟨f1, f2, f3, f4⟩ := fact N hn hl
      rw [f1, if_neg (fun z => q (by rw [f2, z]))]
      rfl
    · conv => whnf
      refine And.intro (vp_in_nI (n := k) (by omega) (by decide)) ?_
      rw [show (hI (some k)).toNatClampNeg = k from nI_clamp (n := k) (by omega)]
      refine h _ (fun N hn hl => ?_)
      obtain ⟨f1, f2, f3, f4⟩ := fact N hn hl
      rw [f2] at q
      have q := (nI_eq (by omega) (by omega)).mp q
      rw [f1, if_pos q, f3]
      rfl
def wNb (t k i s : Nat) : Bool := ((Nat.beq k 46 || (Nat.beq k 47 || Nat.beq k 48)) || (Nat.beq k 7 && Nat.beq s 11)) && Nat.beq i t
def wNa (t k i s : Nat) : Bool := wRe k i s || wNb t k i s
theorem wNa_nb {t : Nat} : ∀ k i s, wNa t k i s = false → wNb t k i s = false := fun k i s h => (Bool.or_eq_false_iff.mp h).2
theorem wNa_re {t : Nat} : ∀ k i s, wNa t k i s = false → wRe k i s = false := fun k i s h => (Bool.or_eq_false_iff.mp h).1
theorem c_addName (Ω : Om) (M : Mem) (t so nu : Nat) (x : Int64) (K : Ka) (hS : San1 M t) (hb : so < 300 ∧ nu < 100) (hK : ∀ M', Un (wNb t) M M' → San1 M' t → (∀ N, NmC M t N → N.length < 24 → NmC M' t (N ++ [(x, so, nu)])) → K none M') : CallS Ω true m_Text_addName [vR (some (7, t)), vJ x, vI (nI so), vI (nI nu)] M K := by
  obtain ⟨c, hc, h11⟩ := hS
  refine call_go (hJL rfl) (Nat.le_of_ble_eq_true rfl) (go_wp ok_Text_addName [] 250 _ _ _ _ _ _ ?_)
  refine And.intro (fun q => ?_) (fun q => ?_)
  · refine hK M Un.rfl ⟨c, hc, h11⟩ (fun N hn hl => ?_)
    have := hn.1
    rw [h11] at this
    have := (nI_eq (by omega) (by omega)).mp this
    rw [h11] at q
    exact absurd q (nI_ge (b := 24) (by omega) (by decide))
  · rw [h11] at q
    have hc2 : c < 24 := by
      have q : ¬ nI 24 ≤ nI c := q
      rw [nI_leI (by omega) (by omega)] at q
      omega
    conv => whnf
    rw [h11]
    refine And.intro (vp_in_nI (by omega) (by decide)) ?_
    rw [nI_clamp (by omega)]
    conv => whnf
    rw [mI_sJ, h11]
    refine And.intro (vp_in_nI (by omega) (by decide)) ?_
    rw [nI_clamp (by omega)]
    conv => whnf
    rw [mI_ne rfl, mI_sJ, h11]
    refine And.intro (vp_in_nI (by omega) (by decide)) ?_
    rw [nI_clamp (by omega)]
    conv => whnf
    rw [mI_ne rfl, mI_ne rfl, mI_sJ, h11, nI_1]
    have w1 : ∀ k s, k = 46 ∨ k = 47 ∨ k = 48 → wNb t k t s = true := fun k s hk => by simp [wNb, nb_d]; omega
    refine hK _ ((((Un.rfl.pJ (w1 46 c (by omega))).pI (w1 47 c (by omega))).pI (w1 48 c (by omega))).pI (by simp [wNb, nb_d])) ⟨c + 1, by omega, mI_eq⟩ (fun N hn hl => ?_)
    · have e : N.length = c := by
        have := hn.1
        rw [h11] at this
        exact ((nI_eq (by omega) (by omega)).mp this).symm
      refine ⟨by rw [mI_eq, List.length_append, e]; rfl, fun j hj => ?_⟩
      rw [List.length_append] at hj
      have hj : j < c + 1 := by rw [← e]; exact hj
      rw [mI_ne (k := 7) rfl, mI_ne (k := 7) rfl, mJ_sI, mJ_sI, mJ_sI]
      by_cases z : j = c
      · subst z
        have e2 : (N ++ [(x, so, nu)]).getD j nmD = (x, so, nu) := by
          rw [List.getD_eq_getElem?_getD, List.getElem?_append_right (by omega), show j - N.length = 0 by omega]; rfl
        rw [e2, mJ_sJ, if_pos ⟨rfl, rfl, rfl⟩, mI_ne (k := 48) rfl, mI_eq, mI_eq]
        exact ⟨rfl, rfl, rfl, hb.1, hb.2⟩
      · have e2 : (N ++ [(x, so, nu)]).getD j nmD = N.getD j nmD := by
          rw [List.getD_eq_getElem?_getD, List.getElem?_append_left (by omega), ← List.getD_eq_getElem?_getD]
        rw [e2, mJ_sJ, if_neg (fun q => z q.2.2), mI_ne (k := 48) rfl, mI_sI, if_neg (fun q => z q.2.2), mI_sJ, mI_sI, if_neg (fun q => z q.2.2), mI_ne (k := 47) rfl, mI_sJ]
        exact hn.2 j (by omega)
