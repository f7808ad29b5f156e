/-! BEST: told strips, their ranges -/
theorem mI_ne {M : Mem} {k i s : Nat} {x : Int32} {k' i' s' : Nat} (h : Nat.beq k' k = false) : mI (sI M k i s x) k' i' s' = mI M k' i' s' := by
  rw [mI_sI, if_neg (fun q => by rw [q.1, Nat.beq_refl] at h; cases h)]
theorem mI_st {M : Mem} {k i s : Nat} {x : Int32} {k' i' s' : Nat} (h : Nat.beq s' s = false) : mI (sI M k i s x) k' i' s' = mI M k' i' s' := by
  rw [mI_sI, if_neg (fun q => by rw [q.2.2, Nat.beq_refl] at h; cases h)]
theorem mI_eq {M : Mem} {k i s : Nat} {x : Int32} : mI (sI M k i s x) k i s = x := by
  rw [mI_sI, if_pos ⟨rfl, rfl, rfl⟩]
def aO (x : Int32) : Nat := (x + 30).toNatClampNeg
def dlo (a : Nat) : Nat := 2 - a
def dhi (a : Nat) : Nat := if a ≤ 58 then 4 else 62 - a
def dnn (a : Nat) : Nat := dhi a + 1 - dlo a
def tv (a x : Nat) : Int32 := sl a + (nI x - 2)
def dgT1 : Bool := (List.range 61).all fun a => (decide ((if (-30 : Int32) < sl a - 2 then sl a - 2 else -30) = tv a (dlo a)) && decide ((if sl a + 2 < 30 then sl a + 2 else 30) = tv a (dhi a))) && (decide (dlo a ≤ dhi a ∧ dhi a ≤ 4) && ((List.range 5).all fun x => (decide (tv a x + 1 = tv a (x + 1)) && decide (inR (-30) 30 (tv a x) = (decide (dlo a ≤ x) && decide (x < dlo a + dnn a)))) && ((List.range 5).all fun y => decide (decide (tv a x < tv a y) = decide (x < y)))))
theorem dgT1_ok : dgT1 = true := by decide +kernel
theorem dg_at {a : Nat} (h : a < 61) : ((if (-30 : Int32) < sl a - 2 then sl a - 2 else -30) = tv a (dlo a) ∧ (if sl a + 2 < 30 then sl a + 2 else 30) = tv a (dhi a)) ∧ (dlo a ≤ dhi a ∧ dhi a ≤ 4) ∧ ∀ x, x < 5 → (tv a x + 1 = tv a (x + 1) ∧ inR (-30) 30 (tv a x) = (decide (dlo a ≤ x) && decide (x < dlo a + dnn a))) ∧ ∀ y, y < 5 → (tv a x < tv a y ↔ x < y) := by
  have q := List.all_eq_true.mp dgT1_ok a (List.mem_range.mpr h)
  simp only [Bool.and_eq_true, decide_eq_true_eq, List.all_eq_true, List.mem_range] at q
  obtain ⟨⟨q1, q2⟩, q3, q4⟩ := q
  refine ⟨⟨q1, q2⟩, q3, fun x hx => ?_⟩
  obtain ⟨⟨r1, r2⟩, r3⟩ := q4 x hx
  exact ⟨⟨r1, r2⟩, fun y hy => decide_eq_decide.mp (r3 y hy)⟩
theorem aO_ok {x : Int32} (h : -30 ≤ x.toInt ∧ x.toInt ≤ 30) : aO x < 61 ∧ x = sl (aO x) := by
  have e : inR (-30) 30 x = true := inR_t.mpr ⟨Int32.le_iff_toInt_le.mpr h.1, Int32.le_iff_toInt_le.mpr h.2⟩
  obtain ⟨k, hk, rfl⟩ := sl_of e
  have : aO (sl k) = k := by unfold aO; rw [sl_30, nI_clamp (by omega)]
  rw [this]
  exact ⟨hk, rfl⟩
/-- the j-th told strip -/
def mj (k j : Nat) : Nat := ((List.range 10).find? fun i => bt k i && Nat.beq (btC k i) j).getD 0
def mjT : Bool := (List.range 1024).all fun k => (List.range 10).all fun i => !(bt k i) || Nat.beq (mj k (btC k i)) i
theorem mjT_ok : mjT = true := by decide +kernel
theorem mj_i {k i : Nat} (h : k < 1024) (hi : i < 10) (hb : bt k i = true) : mj k (btC k i) = i := by
  have q := List.all_eq_true.mp (List.all_eq_true.mp mjT_ok k (List.mem_range.mpr h)) i (List.mem_range.mpr hi)
  rw [hb] at q
  exact Nat.eq_of_beq_eq_true q
theorem btC_s {k i : Nat} (h : bt k i = true) : btC k (i + 1) = btC k i + 1 := by rw [btC, if_pos h]
theorem btC_n {k i : Nat} (h : bt k i = false) : btC k (i + 1) = btC k i := by rw [btC, h]; rfl
theorem btC_mono (k : Nat) : ∀ {i j : Nat}, i ≤ j → btC k i ≤ btC k j := by
  intro i j h
  obtain ⟨d, rfl⟩ := Nat.exists_eq_add_of_le h
  induction d with
  | zero => exact Nat.le_refl _
  | succ d ih => exact Nat.le_trans (ih (Nat.le_add_right _ _)) (by rw [← Nat.add_assoc, btC]; omega)
theorem btC_lt {k i n : Nat} (h : i < n) (hb : bt k i = true) : btC k i < btC k n := by
  have := btC_mono k (show i + 1 ≤ n from h)
  rw [btC_s hb] at this
  exact this
theorem btC_ex (k : Nat) : ∀ {n j : Nat}, j < btC k n → ∃ i, i < n ∧ bt k i = true ∧ btC k i = j := by
  intro n
  induction n with
  | zero => intro j h; exact absurd h (Nat.not_lt_zero _)
  | succ n ih =>
    intro j h
    cases hb : bt k n with
    | false =>
      rw [btC_n hb] at h
      obtain ⟨i, a, b, c⟩ := ih h
      exact ⟨i, by omega, b, c⟩
    | true =>
      rw [btC_s hb] at h
      by_cases e : j = btC k n
      · exact ⟨n, by omega, hb, e.symm⟩
      · obtain ⟨i, a, b, c⟩ := ih (j := j) (by omega)
        exact ⟨i, by omega, b, c⟩
theorem mj_j {k n j : Nat} (h : k < 1024) (hn : n ≤ 10) (hj : j < btC k n) : mj k j < n ∧ bt k (mj k j) = true ∧ btC k (mj k j) = j := by
  obtain ⟨i, a, b, rfl⟩ := btC_ex k hj
  rw [mj_i h (by omega) b]
  exact ⟨a, b, rfl⟩
theorem bt_out {k n i : Nat} (h : k < 2 ^ n) (hi : n ≤ i) : bt k i = false := by
  have h2 : 2 ^ n ≤ 2 ^ i := Nat.pow_le_pow_right (by decide) hi
  unfold bt
  rw [Nat.div_eq_of_lt (by omega)]
  rfl
theorem btC_out {k n : Nat} (h : k < 2 ^ n) : ∀ d, btC k (n + d) = btC k n := by
  intro d
  induction d with
  | zero => rfl
  | succ d ih => rw [← Nat.add_assoc, btC_n (bt_out h (by omega)), ih]
theorem k_1024 {k n : Nat} (h : k < 2 ^ n) (hn : n ≤ 10) : k < 1024 := Nat.lt_of_lt_of_le h (Nat.pow_le_pow_right (by decide) hn)
/-- the places of the old twists of the told strips; their lowest digits, how many -/
def ao (T : Tx) (w k j : Nat) : Nat := aO (T 95 (10 * w + mj k j))
def loF (T : Tx) (w k j : Nat) : Nat := dlo (ao T w k j)
def nnF (T : Tx) (w k j : Nat) : Nat := dnn (ao T w k j)
/-- the twists of a way -/
def twD (T : Tx) (w k : Nat) (d : Nat → Nat) (i : Nat) : Int32 := if bt k i = true then tv (aO (T 95 (10 * w + i))) (d (btC k i)) else T 95 (10 * w + i)
theorem ao_ok {T : Tx} {w k j : Nat} (hW : WgOK T w) (hk : k < 2 ^ wN T w) (hj : j < btC k (wN T w)) : ao T w k j < 61 ∧ T 95 (10 * w + mj k j) = sl (ao T w k j) := by
  have hn := hW.n
  exact aO_ok (hn.2.2.2 _ (mj_j (k_1024 hk hn.2.2.1) hn.2.2.1 hj).1).2.2.2.1
theorem dnn_ok {a : Nat} (h : a < 61) : dlo a + dnn a = dhi a + 1 ∧ dhi a ≤ 4 ∧ 0 < dnn a := by
  have := (dg_at h).2.1
  unfold dnn
  omega
/-- the bounds of a way's digits -/
theorem dF_in {lo n : Nat → Nat} : ∀ m, (∀ j, j < m → 0 < n j) → ∀ c, c < dP n m → ∀ j, j < m → lo j ≤ dF lo n m c j ∧ dF lo n m c j < lo j + n j := by
  intro m
  induction m with
  | zero => intro _ c _ j hj; exact absurd hj (Nat.not_lt_zero _)
  | succ m ih =>
    intro hn c hc j hj
    have h0 := hn m (by omega)
    rw [dP] at hc
    rw [dF]
    unfold up1
    by_cases e : j = m
    · rw [if_pos e]
      subst e
      have := Nat.mod_lt c h0
      omega
    · rw [if_neg e]
      exact ih (fun j hj => hn j (by omega)) (c / n m) (Nat.div_lt_of_lt_mul (by rw [Nat.mul_comm]; exact hc)) j (by omega)
