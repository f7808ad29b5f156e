/-! BARS, II: the class's steps -/
def obS (vs : Nat → Int32) (c : Cd) (o : Option (List Int32)) : Option (List Int32) := match o with
  | some S => stS vs c S
  | none => none
def ocS (x : Int32) (o : Option (List Int32)) : Option (List Int32) := match o with
  | some S => some (x :: S)
  | none => none
def cpO (k : Nat) (o : Option (List Int32)) : Bool := match o with
  | some [b, a] => cmS k a b
  | _ => false
theorem StC.push {M M' : Mem} {t h : Nat} {o : Option (List Int32)} {x : Int32} (hS : StC M t h o) (h7 : mI M' 0 t 7 = nI (h + 1)) (h8 : mI M' 0 t 8 = mI M 0 t 8) (hx : mI M' 17 t h = x) (hl : ∀ j, j < h → mI M' 17 t j = mI M 17 t j) : StC M' t (h + 1) (ocS x o) := by
  refine ⟨h7, ?_, ?_⟩
  · rw [h8, hS.2.1]; cases o <;> rfl
  · intro S e
    cases o with
    | none => cases e
    | some S0 =>
      cases e
      obtain ⟨l0, q⟩ := hS.2.2 S0 rfl
      refine ⟨by simp [l0], fun k hk => ?_⟩
      cases k with
      | zero => exact hx
      | succ k =>
        rw [show h + 1 - 1 - (k + 1) = h - 1 - k by omega, hl _ (by omega), q k (by omega)]
        rfl
theorem StC.op {M M' : Mem} {t h : Nat} {vs : Nat → Int32} {c : Cd} {o : Option (List Int32)} (hc : 2 ≤ c.1 ∧ c.1 ≤ 5) (hS : StC M t (h + 2) o) (h7 : mI M' 0 t 7 = nI (h + 1)) (h8 : mI M' 0 t 8 = if c.1 = 5 ∧ mI M 17 t (h + 1) = 0 then 1 else mI M 0 t 8) (hx : ¬ (c.1 = 5 ∧ mI M 17 t (h + 1) = 0) → mI M' 17 t h = opS c.1 (mI M 17 t h) (mI M 17 t (h + 1))) (hl : ∀ j, j < h → mI M' 17 t j = mI M 17 t j) : StC M' t (h + 1) (obS vs c o) := by
  have c0 : ¬ c.1 = 0 := by omega
  have c1 : ¬ c.1 = 1 := by omega
  cases o with
  | none =>
    refine ⟨h7, ?_, fun S e => by cases e⟩
    rw [h8, hS.2.1]
    split <;> rfl
  | some S0 =>
    obtain ⟨l0, q⟩ := hS.2.2 S0 rfl
    match S0, l0, q, hS with
    | b :: a :: S', l0, q, hS =>
      have eb : mI M 17 t (h + 1) = b := q 0 (by omega)
      have ea : mI M 17 t h = a := q 1 (by omega)
      rw [eb] at h8 hx
      rw [ea] at hx
      have e1 : stS vs c (b :: a :: S') = if c.1 = 5 ∧ b = 0 then none else some (opS c.1 a b :: S') := by unfold stS; rw [if_neg c0, if_neg c1]
      show StC M' t (h + 1) (stS vs c (b :: a :: S'))
      rw [e1]
      by_cases z : c.1 = 5 ∧ b = 0
      · rw [if_pos z] at h8 ⊢
        exact ⟨h7, h8, fun S e => by cases e⟩
      · rw [if_neg z] at h8 ⊢
        refine ⟨h7, h8.trans hS.2.1, fun S e => ?_⟩
        cases e
        refine ⟨by simp at l0 ⊢; omega, fun k hk => ?_⟩
        cases k with
        | zero => exact hx z
        | succ k =>
          rw [show h + 1 - 1 - (k + 1) = h - 1 - k by omega, hl _ (by omega)]
          have := q (k + 2) (by omega)
          rw [show h + 2 - 1 - (k + 2) = h - 1 - k by omega] at this
          rw [this]
          rfl
theorem c_reckon (Ω : Om) (M : Mem) (t h : Nat) (vs : Nat → Int32) (c : Cd) (o : Option (List Int32)) (K : Ka) (hh : h + 2 < 32) (hc : 2 ≤ c.1 ∧ c.1 ≤ 5) (hS : StC M t (h + 2) o) (hK : ∀ M', Un (wBr t) M M' → StC M' t (h + 1) (obS vs c o) → K none M') : CallS Ω true m_Bars_reckon [vR (some (0, t)), vI (wdC c).1] M K := by
  have h8b := hS.2.1
  refine call_go (hJL rfl) (Nat.le_of_ble_eq_true rfl) (go_wp ok_Bars_reckon [105, 90] 250 _ _ _ _ _ _ ?_)
  conv => whnf
  refine cl_use (fun K q => c_pop Ω M t (h + 1) K (by omega) hS.1 q) trivial ?_
  conv => whnf
  refine cl_use (fun K q => c_pop Ω (sI M 0 t 7 (nI (h + 1))) t h K (by omega) (by rw [mI_sI, if_pos ⟨rfl, rfl, rfl⟩]) q) trivial ?_
  generalize hM2 : sI (sI M 0 t 7 (nI (h + 1))) 0 t 7 (nI h) = M2
  have hU2 : Un (wBr t) M M2 := by rw [← hM2]; exact (Un.rfl.pI wBr_7).pI wBr_7
  have e7 : mI M2 0 t 7 = nI h := by rw [← hM2, mI_sI, if_pos ⟨rfl, rfl, rfl⟩]
  have e8 : mI M2 0 t 8 = mI M 0 t 8 := by rw [← hM2, mI_sI, if_neg (fun q => absurd q.2.2 (by decide)), mI_sI, if_neg (fun q => absurd q.2.2 (by decide))]
  have e17 : ∀ j, mI M2 17 t j = mI M 17 t j := fun j => by rw [← hM2, mI_sI, if_neg (fun q => absurd q.1 (by decide)), mI_sI, if_neg (fun q => absurd q.1 (by decide))]
  have ea : mI (sI M 0 t 7 (nI (h + 1))) 17 t h = mI M 17 t h := by rw [mI_sI, if_neg (fun q => absurd q.1 (by decide))]
  rw [ea]
  clear hM2
  have fin : ∀ (M3 : Mem) (x : Int32), Un (wBr t) M M3 → mI M3 0 t 7 = nI h → (mI M3 0 t 8 = if c.1 = 5 ∧ mI M 17 t (h + 1) = 0 then 1 else mI M 0 t 8) → (¬ (c.1 = 5 ∧ mI M 17 t (h + 1) = 0) → x = opS c.1 (mI M 17 t h) (mI M 17 t (h + 1))) → (∀ j, mI M3 17 t j = mI M 17 t j) → ∀ K0 : Ka, (∀ M', Un (wBr t) M M' → StC M' t (h + 1) (obS vs c o) → K0 none M') → CallS Ω true m_Bars_push [vR (some (0, t)), vI x] M3 K0 := by
    intro M3 x hU3 f7 f8 fx f17 K0 hK0
    refine c_push Ω M3 t h x K0 (by omega) f7 (hK0 _ ((hU3.pI wBr_17).pI wBr_7) ?_)
    refine StC.op hc hS ?_ ?_ (fun z => ?_) (fun j hj => ?_)
    · rw [mI_sI, if_pos ⟨rfl, rfl, rfl⟩]
    · rw [mI_sI, if_neg (fun q => absurd q.2.2 (by decide)), mI_sI, if_neg (fun q => absurd q.1 (by decide))]; exact f8
    · rw [mI_sI, if_neg (fun q => absurd q.1 (by decide)), mI_sI, if_pos ⟨rfl, rfl, rfl⟩]; exact fx z
    · rw [mI_sI, if_neg (fun q => absurd q.1 (by decide)), mI_sI, if_neg (fun q => by omega)]; exact f17 j
  have done : ∀ (M' : Mem) (ls : List (Option Vl)), Un (wBr t) M M' → StC M' t (h + 1) (obS vs c o) → GoS Ω true m_Bars_reckon K 105 ls [] M' 0 0 := by
    intro M' ls a b
    refine go_wp ok_Bars_reckon [] 250 _ _ _ _ _ _ ?_
    exact hK M' a b
  obtain ⟨k, v⟩ := c
  rcases (show k = 2 ∨ k = 3 ∨ k = 4 ∨ k = 5 by have := hc.1; have := hc.2; simp at *; omega) with rfl | rfl | rfl | rfl
  · rw [show (wdC (2, v)).1 = 43 from rfl]
    refine And.intro (fun a => absurd a (by decide)) (fun _ => And.intro (fun _ => ?_) (fun a => absurd rfl a))
    conv => whnf
    refine ⟨fun r M' => r = none ∧ Un (wBr t) M M' ∧ StC M' t (h + 1) (obS vs (2, v) o), fin M2 _ hU2 e7 (by rw [e8]; rfl) (fun _ => rfl) e17 _ (fun M' a b => ⟨rfl, a, b⟩), trivial, ?_⟩
    rintro r M' ⟨rfl, a, b⟩
    exact done M' _ a b
  · rw [show (wdC (3, v)).1 = 45 from rfl]
    refine And.intro (fun a => absurd a (by decide)) (fun _ => And.intro (fun a => absurd a (by decide)) (fun _ => And.intro (fun a => absurd a (by decide)) (fun _ => And.intro (fun _ => ?_) (fun a => absurd rfl a))))
    conv => whnf
    refine ⟨fun r M' => r = none ∧ Un (wBr t) M M' ∧ StC M' t (h + 1) (obS vs (3, v) o), fin M2 _ hU2 e7 (by rw [e8]; rfl) (fun _ => rfl) e17 _ (fun M' a b => ⟨rfl, a, b⟩), trivial, ?_⟩
    rintro r M' ⟨rfl, a, b⟩
    exact done M' _ a b
  · rw [show (wdC (4, v)).1 = 42 from rfl]
    refine And.intro (fun _ => ?_) (fun a => absurd rfl a)
    conv => whnf
    refine ⟨fun r M' => r = none ∧ Un (wBr t) M M' ∧ StC M' t (h + 1) (obS vs (4, v) o), fin M2 _ hU2 e7 (by rw [e8]; rfl) (fun _ => rfl) e17 _ (fun M' a b => ⟨rfl, a, b⟩), trivial, ?_⟩
    rintro r M' ⟨rfl, a, b⟩
    exact done M' _ a b
  · rw [show (wdC (5, v)).1 = 47 from rfl]
    refine And.intro (fun a => absurd a (by decide)) (fun _ => And.intro (fun a => absurd a (by decide)) (fun _ => And.intro (fun a => absurd a (by decide)) (fun _ => And.intro (fun a => absurd a (by decide)) (fun _ => ?_))))
    conv => whnf
    have tail : ∀ (M3 : Mem), Un (wBr t) M M3 → mI M3 0 t 7 = nI h → (mI M3 0 t 8 = if mI M 17 t (h + 1) = 0 then 1 else mI M 0 t 8) → (∀ j, mI M3 17 t j = mI M 17 t j) → GoS Ω true m_Bars_reckon K 90 [some (vR (some (0, t))), some (vI (wdC (5, v)).1), some (vI (mI M 17 t (h + 1))), some (vI (mI M 17 t h))] [] M3 0 0 := by
      intro M3 hU3 f7 f8 f17
      have f8' : mI M3 0 t 8 = if (5, v).1 = 5 ∧ mI M 17 t (h + 1) = 0 then 1 else mI M 0 t 8 := by rw [f8]; simp
      refine go_wp ok_Bars_reckon [105] 250 _ _ _ _ _ _ ?_
      refine And.intro (fun z => ?_) (fun z => ?_)
      · refine And.intro z ?_
        conv => whnf
        refine ⟨fun r M' => r = none ∧ Un (wBr t) M M' ∧ StC M' t (h + 1) (obS vs (5, v) o), fin M3 _ hU3 f7 f8' (fun _ => rfl) f17 _ (fun M' a b => ⟨rfl, a, b⟩), trivial, ?_⟩
        rintro r M' ⟨rfl, a, b⟩
        exact done M' _ a b
      · conv => whnf
        refine ⟨fun r M' => r = none ∧ Un (wBr t) M M' ∧ StC M' t (h + 1) (obS vs (5, v) o), fin M3 _ hU3 f7 f8' (fun q => absurd ⟨rfl, z⟩ q) f17 _ (fun M' a b => ⟨rfl, a, b⟩), trivial, ?_⟩
        rintro r M' ⟨rfl, a, b⟩
        exact done M' _ a b
    have h8 := hS.2.1
    refine And.intro (fun z => ?_) (fun z => ?_)
    · conv => whnf
      refine And.intro (Or.inr rfl) ?_
      conv => whnf
      refine tail (sI M2 0 t 8 1) (hU2.pI wBr_8) (by rw [mI_sI, if_neg (fun q => absurd q.2.2 (by decide))]; exact e7) ?_ (fun j => by rw [mI_sI, if_neg (fun q => absurd q.1 (by decide))]; exact e17 j)
      rw [mI_sI, if_pos ⟨rfl, rfl, rfl⟩]
      rw [e8] at z
      rcases bI_01 o.isNone with e | e
      · rw [h8, e] at z; exact absurd rfl z
      · rw [h8, e]; split <;> rfl
    · conv => whnf
      refine And.intro (fun z2 => ?_) (fun z2 => ?_)
      · conv => whnf
        refine And.intro (Or.inl rfl) ?_
        conv => whnf
        refine tail (sI M2 0 t 8 0) (hU2.pI wBr_8) (by rw [mI_sI, if_neg (fun q => absurd q.2.2 (by decide))]; exact e7) ?_ (fun j => by rw [mI_sI, if_neg (fun q => absurd q.1 (by decide))]; exact e17 j)
        rw [mI_sI, if_pos ⟨rfl, rfl, rfl⟩, if_neg z2, ← e8]
        exact z.symm
      · conv => whnf
        refine And.intro (Or.inr rfl) ?_
        conv => whnf
        refine tail (sI M2 0 t 8 1) (hU2.pI wBr_8) (by rw [mI_sI, if_neg (fun q => absurd q.2.2 (by decide))]; exact e7) ?_ (fun j => by rw [mI_sI, if_neg (fun q => absurd q.1 (by decide))]; exact e17 j)
        rw [mI_sI, if_pos ⟨rfl, rfl, rfl⟩, if_pos z2]
theorem c_compares (Ω : Om) (M : Mem) (t k : Nat) (o : Option (List Int32)) (K : Ka) (hk : k ≤ 3) (hS : StC M t 2 o) (hK : ∀ M', Un (wBr t) M M' → mI M' 0 t 7 = nI 0 → K (some (vI (bI (cpO k o)))) M') : CallS Ω true m_Bars_compares [vR (some (0, t)), vI (nI (4 + k))] M K := by
  refine call_go (hJL rfl) (Nat.le_of_ble_eq_true rfl) (go_wp ok_Bars_compares [] 250 _ _ _ _ _ _ ?_)
  conv => whnf
  refine cl_use (fun K q => c_pop Ω M t 1 K (by omega) hS.1 q) trivial ?_
  conv => whnf
  refine cl_use (fun K q => c_pop Ω (sI M 0 t 7 (nI 1)) t 0 K (by omega) (by rw [mI_sI, if_pos ⟨rfl, rfl, rfl⟩]) q) trivial ?_
  generalize hM2 : sI (sI M 0 t 7 (nI 1)) 0 t 7 (nI 0) = M2
  have hU2 : Un (wBr t) M M2 := by rw [← hM2]; exact (Un.rfl.pI wBr_7).pI wBr_7
  have e7 : mI M2 0 t 7 = nI 0 := by rw [← hM2, mI_sI, if_pos ⟨rfl, rfl, rfl⟩]
  have e8 : mI M2 0 t 8 = mI M 0 t 8 := by rw [← hM2, mI_sI, if_neg (fun q => absurd q.2.2 (by decide)), mI_sI, if_neg (fun q => absurd q.2.2 (by decide))]
  have ea : mI (sI M 0 t 7 (nI 1)) 17 t 0 = mI M 17 t 0 := by rw [mI_sI, if_neg (fun q => absurd q.1 (by decide))]
  rw [ea]
  clear hM2
  have hK2 := hK M2 hU2 e7
  have h8 := hS.2.1
  cases o with
  | none =>
    conv => whnf
    rw [e8, h8]
    refine And.intro (fun a => absurd a (by decide)) (fun _ => ?_)
    conv => whnf
    exact ⟨Or.inl rfl, hK2⟩
  | some S =>
    obtain ⟨l0, q⟩ := hS.2.2 S rfl
    match S, l0, q with
    | [b, a], l0, q =>
      have eb : mI M 17 t 1 = b := q 0 (by omega)
      have ea : mI M 17 t 0 = a := q 1 (by omega)
      rw [ea, eb]
      conv => whnf
      rw [e8, h8]
      refine And.intro (fun _ => ?_) (fun a => absurd rfl a)
      have hK3 : K (some (vI (bI (cmS k a b)))) M2 := hK2
      rcases (show k = 0 ∨ k = 1 ∨ k = 2 ∨ k = 3 by omega) with rfl | rfl | rfl | rfl
      · refine And.intro (fun _ => ?_) (fun a => absurd rfl a)
        conv => whnf
        refine And.intro (fun z => ?_) (fun z => ?_)
        · conv => whnf
          rw [show cmS 0 a b = false from decide_eq_false z] at hK3
          exact ⟨Or.inl rfl, hK3⟩
        · conv => whnf
          rw [show cmS 0 a b = true from decide_eq_true z] at hK3
          exact ⟨Or.inr rfl, hK3⟩
      · refine And.intro (fun a => absurd a (by decide)) (fun _ => And.intro (fun _ => ?_) (fun a => absurd rfl a))
        conv => whnf
        refine And.intro (fun z => ?_) (fun z => ?_)
        · conv => whnf
          rw [show cmS 1 a b = false from by show (!(decide (a = b))) = false; rw [decide_eq_true z]; rfl] at hK3
          exact ⟨Or.inl rfl, hK3⟩
        · conv => whnf
          rw [show cmS 1 a b = true from by show (!(decide (a = b))) = true; rw [decide_eq_false z]; rfl] at hK3
          exact ⟨Or.inr rfl, hK3⟩
      · refine And.intro (fun a => absurd a (by decide)) (fun _ => And.intro (fun a => absurd a (by decide)) (fun _ => And.intro (fun _ => ?_) (fun a => absurd rfl a)))
        conv => whnf
        refine And.intro (fun z => ?_) (fun z => ?_)
        · conv => whnf
          rw [show cmS 2 a b = false from decide_eq_false (Int32.not_lt.mpr z)] at hK3
          exact ⟨Or.inl rfl, hK3⟩
        · conv => whnf
          rw [show cmS 2 a b = true from decide_eq_true (Int32.not_le.mp z)] at hK3
          exact ⟨Or.inr rfl, hK3⟩
      · refine And.intro (fun a => absurd a (by decide)) (fun _ => And.intro (fun a => absurd a (by decide)) (fun _ => And.intro (fun a => absurd a (by decide)) (fun _ => ?_)))
        conv => whnf
        refine And.intro (fun z => ?_) (fun z => ?_)
        · conv => whnf
          rw [show cmS 3 a b = false from decide_eq_false (Int32.not_le.mpr z)] at hK3
          exact ⟨Or.inl rfl, hK3⟩
        · conv => whnf
          rw [show cmS 3 a b = true from decide_eq_true (Int32.not_lt.mp z)] at hK3
          exact ⟨Or.inr rfl, hK3⟩
