/-! TOOLS: loops, frames, rows of references, numbers -/
theorem loopN (N : Nat) (P G : Nat → Mem → Prop) (hb : ∀ j M, j < N → P j M → (∀ M', P (j + 1) M' → G (j + 1) M') → G j M) (he : ∀ M, P N M → G N M) : ∀ (j : Nat) (M : Mem), j ≤ N → P j M → G j M := by
  intro j M hj h
  obtain ⟨d, hd⟩ : ∃ d, d = N - j := ⟨_, rfl⟩
  induction d generalizing j M with
  | zero =>
    have e : j = N := by omega
    subst e
    exact he M h
  | succ d ih => exact hb j M (by omega) h (fun M' h' => ih (j + 1) M' (by omega) h' (by omega))
/-- the cells outside w are untouched -/
def Un (w : Nat → Nat → Nat → Bool) (M M' : Mem) : Prop := ∀ k i s, w k i s = false → mI M' k i s = mI M k i s ∧ mJ M' k i s = mJ M k i s ∧ mR M' k i s = mR M k i s
theorem Un.rfl {w : Nat → Nat → Nat → Bool} {M : Mem} : Un w M M := fun _ _ _ _ => ⟨Eq.refl _, Eq.refl _, Eq.refl _⟩
theorem Un.trans {w : Nat → Nat → Nat → Bool} {M M' M'' : Mem} (h : Un w M M') (h' : Un w M' M'') : Un w M M'' := fun k i s q => ⟨(h' k i s q).1.trans (h k i s q).1, (h' k i s q).2.1.trans (h k i s q).2.1, (h' k i s q).2.2.trans (h k i s q).2.2⟩
theorem Un.mono {w w' : Nat → Nat → Nat → Bool} {M M' : Mem} (hs : ∀ k i s, w' k i s = false → w k i s = false) (h : Un w M M') : Un w' M M' := fun k i s q => h k i s (hs k i s q)
theorem Un.I {w : Nat → Nat → Nat → Bool} {M M' : Mem} (h : Un w M M') {k i s : Nat} (q : w k i s = false) : mI M' k i s = mI M k i s := (h k i s q).1
theorem Un.J {w : Nat → Nat → Nat → Bool} {M M' : Mem} (h : Un w M M') {k i s : Nat} (q : w k i s = false) : mJ M' k i s = mJ M k i s := (h k i s q).2.1
theorem Un.R {w : Nat → Nat → Nat → Bool} {M M' : Mem} (h : Un w M M') {k i s : Nat} (q : w k i s = false) : mR M' k i s = mR M k i s := (h k i s q).2.2
theorem Un.pI {w : Nat → Nat → Nat → Bool} {M M' : Mem} {k i s : Nat} {x : Int32} (h : Un w M M') (hk : w k i s = true) : Un w M (sI M' k i s x) := fun k' i' s' q => by
  have h1 : ¬ (k' = k ∧ i' = i ∧ s' = s) := fun e => by rw [e.1, e.2.1, e.2.2, hk] at q; cases q
  rw [mI_sI, if_neg h1, mJ_sI, mR_sI]
  exact h k' i' s' q
theorem Un.pJ {w : Nat → Nat → Nat → Bool} {M M' : Mem} {k i s : Nat} {x : Int64} (h : Un w M M') (hk : w k i s = true) : Un w M (sJ M' k i s x) := fun k' i' s' q => by
  have h1 : ¬ (k' = k ∧ i' = i ∧ s' = s) := fun e => by rw [e.1, e.2.1, e.2.2, hk] at q; cases q
  rw [mJ_sJ, if_neg h1, mI_sJ, mR_sJ]
  exact h k' i' s' q
theorem Un.pR {w : Nat → Nat → Nat → Bool} {M M' : Mem} {k i s : Nat} {x : Rf} (h : Un w M M') (hk : w k i s = true) : Un w M (sR M' k i s x) := fun k' i' s' q => by
  have h1 : ¬ (k' = k ∧ i' = i ∧ s' = s) := fun e => by rw [e.1, e.2.1, e.2.2, hk] at q; cases q
  rw [mR_sR, if_neg h1, mI_sR, mJ_sR]
  exact h k' i' s' q
theorem mI_fillI (M : Mem) (k i n : Nat) (x : Int32) (k' i' s' : Nat) : mI (sFillI M k i n x) k' i' s' = if k' = k ∧ i' = i ∧ s' < n then x else mI M k' i' s' := rfl
theorem mJ_fillI (M : Mem) (k i n : Nat) (x : Int32) (k' i' s' : Nat) : mJ (sFillI M k i n x) k' i' s' = mJ M k' i' s' := rfl
theorem mR_fillI (M : Mem) (k i n : Nat) (x : Int32) (k' i' s' : Nat) : mR (sFillI M k i n x) k' i' s' = mR M k' i' s' := rfl
theorem mI_fillJ (M : Mem) (k i n : Nat) (x : Int64) (k' i' s' : Nat) : mI (sFillJ M k i n x) k' i' s' = mI M k' i' s' := rfl
theorem mJ_fillJ (M : Mem) (k i n : Nat) (x : Int64) (k' i' s' : Nat) : mJ (sFillJ M k i n x) k' i' s' = if k' = k ∧ i' = i ∧ s' < n then x else mJ M k' i' s' := rfl
theorem mR_fillJ (M : Mem) (k i n : Nat) (x : Int64) (k' i' s' : Nat) : mR (sFillJ M k i n x) k' i' s' = mR M k' i' s' := rfl
theorem mI_cp (M : Mem) (k i k2 i2 a b n : Nat) (k' i' s' : Nat) : mI (sCpJ M k i k2 i2 a b n) k' i' s' = mI M k' i' s' := rfl
theorem mR_cp (M : Mem) (k i k2 i2 a b n : Nat) (k' i' s' : Nat) : mR (sCpJ M k i k2 i2 a b n) k' i' s' = mR M k' i' s' := rfl
theorem mJ_cp (M : Mem) (k i k2 i2 n : Nat) (k' i' s' : Nat) : mJ (sCpJ M k i k2 i2 0 0 n) k' i' s' = if k' = k2 ∧ i' = i2 ∧ s' < n then mJ M k i s' else mJ M k' i' s' := by
  show (if k' = k2 ∧ i' = i2 then va_cpy (M.2.2.1 k i) (M.2.2.1 k2 i2) 0 0 n else M.2.2.1 k' i') s' = if k' = k2 ∧ i' = i2 ∧ s' < n then M.2.2.1 k i s' else M.2.2.1 k' i' s'
  by_cases h : k' = k2 ∧ i' = i2
  · rw [if_pos h, h.1, h.2]
    by_cases g : s' < n
    · rw [if_pos ⟨rfl, rfl, g⟩, pk_cpy_in (Nat.zero_le _) (by omega), Nat.zero_add, Nat.sub_zero]
    · rw [if_neg (fun q => g q.2.2), pk_cpy_out (Or.inr (by omega))]
  · rw [if_neg h, if_neg (fun q => h ⟨q.1, q.2.1⟩)]
theorem Un.fI {w : Nat → Nat → Nat → Bool} {M M' : Mem} {k i n : Nat} {x : Int32} (h : Un w M M') (hk : ∀ s, w k i s = true) : Un w M (sFillI M' k i n x) := fun k' i' s' q => by
  have h1 : ¬ (k' = k ∧ i' = i ∧ s' < n) := fun e => by rw [e.1, e.2.1, hk] at q; cases q
  rw [mI_fillI, if_neg h1]
  exact h k' i' s' q
theorem Un.fJ {w : Nat → Nat → Nat → Bool} {M M' : Mem} {k i n : Nat} {x : Int64} (h : Un w M M') (hk : ∀ s, w k i s = true) : Un w M (sFillJ M' k i n x) := fun k' i' s' q => by
  have h1 : ¬ (k' = k ∧ i' = i ∧ s' < n) := fun e => by rw [e.1, e.2.1, hk] at q; cases q
  rw [mJ_fillJ, if_neg h1]
  exact h k' i' s' q
theorem Un.cp {w : Nat → Nat → Nat → Bool} {M M' : Mem} {k i k2 i2 n : Nat} (h : Un w M M') (hk : ∀ s, w k2 i2 s = true) : Un w M (sCpJ M' k i k2 i2 0 0 n) := fun k' i' s' q => by
  have h1 : ¬ (k' = k2 ∧ i' = i2 ∧ s' < n) := fun e => by rw [e.1, e.2.1, hk] at q; cases q
  rw [mI_cp, mR_cp, mJ_cp, if_neg h1]
  exact h k' i' s' q
theorem rr_law {M : Mem} {t s : Nat} (h : s < 8) : rR true M 42 t s = some (3, 8 * t + s) := by
  show (match cond (Nat.ble s 7) (srU 42 t s) none with | some r => r | none => mR M 42 t s) = _
  rw [Nat.ble_eq.mpr (show s ≤ 7 by omega)]
  rfl
theorem rr_wing {M : Mem} {t s : Nat} (h : s < 4) : rR true M 45 t s = some (10, 4 * t + s) := by
  show (match cond (Nat.ble s 3) (srU 45 t s) none with | some r => r | none => mR M 45 t s) = _
  rw [Nat.ble_eq.mpr (show s ≤ 3 by omega)]
  rfl
theorem rr_text {M : Mem} {s : Nat} (h : s < 4) : rR true M 64 0 s = some (7, s) := by
  show (match cond (Nat.ble s 3) (srU 64 0 s) none with | some r => r | none => mR M 64 0 s) = _
  rw [Nat.ble_eq.mpr (show s ≤ 3 by omega)]
  rfl
/-- truth as an int -/
def bI (b : Bool) : Int32 := cond b 1 0
theorem bI_01 (b : Bool) : bI b = 0 ∨ bI b = 1 := by cases b <;> simp [bI]
theorem br_bz {b : Bool} {A B : Prop} (a : b = false → A) (c : b = true → B) : (bI b = 0 → A) ∧ (¬ bI b = 0 → B) := by
  cases b
  · exact ⟨fun _ => a rfl, fun h => absurd rfl h⟩
  · exact ⟨fun h => absurd h (by decide), fun _ => c rfl⟩
theorem br_bn {b : Bool} {A B : Prop} (a : b = true → A) (c : b = false → B) : (¬ bI b = 0 → A) ∧ (bI b = 0 → B) := by
  cases b
  · exact ⟨fun h => absurd rfl h, fun _ => c rfl⟩
  · exact ⟨fun _ => a rfl, fun h => absurd h (by decide)⟩
/-- sums of longs -/
def sm (f : Nat → Int64) : Nat → Int64
  | 0 => 0
  | n + 1 => sm f n + f n
theorem sm_congr {f g : Nat → Int64} : ∀ {n : Nat}, (∀ j, j < n → f j = g j) → sm f n = sm g n := by
  intro n
  induction n with
  | zero => intro _; rfl
  | succ n ih => intro h; rw [sm, sm, ih (fun j hj => h j (Nat.lt_succ_of_lt hj)), h n (Nat.lt_succ_self n)]
theorem J_add {x y : Int64} (h : -9223372036854775808 ≤ x.toInt + y.toInt ∧ x.toInt + y.toInt < 9223372036854775808) : (x + y).toInt = x.toInt + y.toInt := by
  rw [Int64.toInt_add]; exact Int.bmod_eq_of_le (by omega) (by omega)
theorem J_sub {x y : Int64} (h : -9223372036854775808 ≤ x.toInt - y.toInt ∧ x.toInt - y.toInt < 9223372036854775808) : (x - y).toInt = x.toInt - y.toInt := by
  rw [Int64.toInt_sub]; exact Int.bmod_eq_of_le (by omega) (by omega)
theorem J_mul {x y : Int64} (h : -9223372036854775808 ≤ x.toInt * y.toInt ∧ x.toInt * y.toInt < 9223372036854775808) : (x * y).toInt = x.toInt * y.toInt := by
  rw [Int64.toInt_mul]; exact Int.bmod_eq_of_le (by omega) (by omega)
theorem J_neg {x : Int64} (h : -9223372036854775808 < x.toInt) : (-x).toInt = -x.toInt := by
  have h2 := Int64.toInt_lt x
  rw [Int64.toInt_neg]; exact Int.bmod_eq_of_le (by omega) (by omega)
theorem J_div {x y : Int64} (h : -9223372036854775808 < x.toInt) : (x / y).toInt = x.toInt.tdiv y.toInt := by
  have h2 := Int64.toInt_lt x
  rw [Int64.toInt_div]
  have h3 : (x.toInt.tdiv y.toInt).natAbs ≤ x.toInt.natAbs := by
    rw [Int.natAbs_tdiv]; exact Nat.div_le_self _ _
  exact Int.bmod_eq_of_le (by omega) (by omega)
theorem I_add {x y : Int32} (h : -2147483648 ≤ x.toInt + y.toInt ∧ x.toInt + y.toInt < 2147483648) : (x + y).toInt = x.toInt + y.toInt := by
  rw [Int32.toInt_add]; exact Int.bmod_eq_of_le (by omega) (by omega)
theorem I_sub {x y : Int32} (h : -2147483648 ≤ x.toInt - y.toInt ∧ x.toInt - y.toInt < 2147483648) : (x - y).toInt = x.toInt - y.toInt := by
  rw [Int32.toInt_sub]; exact Int.bmod_eq_of_le (by omega) (by omega)
theorem I_mul {x y : Int32} (h : -2147483648 ≤ x.toInt * y.toInt ∧ x.toInt * y.toInt < 2147483648) : (x * y).toInt = x.toInt * y.toInt := by
  rw [Int32.toInt_mul]; exact Int.bmod_eq_of_le (by omega) (by omega)
theorem I_l (x : Int32) : x.toInt64.toInt = x.toInt := Int32.toInt_toInt64 x
theorem nb_d (a b : Nat) : Nat.beq a b = decide (a = b) := by
  by_cases h : a = b
  · rw [decide_eq_true h]; subst h; exact Nat.beq_refl a
  · rw [decide_eq_false h]; exact Bool.eq_false_iff.mpr (fun q => h (Nat.eq_of_beq_eq_true q))
theorem nl_d (a b : Nat) : Nat.ble a b = decide (a ≤ b) := by
  by_cases h : a ≤ b
  · rw [decide_eq_true h]; exact Nat.ble_eq.mpr h
  · rw [decide_eq_false h]; exact Bool.eq_false_iff.mpr (fun q => h (Nat.le_of_ble_eq_true q))
