/-! WHAT A ROUND IS, in the model's words; its bounds -/
abbrev Tx : Type := Nat → Nat → Int32
abbrev Ev : Type := Tx × Nat × Int32 × Int32 × (Nat → Int32) × (Nat → Int64)
def eT (E : Ev) : Tx := E.1
def eW (E : Ev) : Nat := E.2.1
def eV (E : Ev) : Int32 := E.2.2.1
def eH (E : Ev) : Int32 := E.2.2.2.1
def eB (E : Ev) : Nat → Int32 := E.2.2.2.2.1
def eA (E : Ev) : Nat → Int64 := E.2.2.2.2.2
def wN (T : Tx) (w : Nat) : Nat := (T 86 w).toNatClampNeg
def eN (E : Ev) : Nat := wN (eT E) (eW E)
def eY (E : Ev) : Int64 := 14549535 * (eT E 87 (eW E)).toInt64
def eg (g : Nat → Int64) (n k : Nat) : Int64 := (if k < n then g k else 0) - (if 0 < k then g (k - 1) else 0)
def dd (i k : Nat) : Int64 := 2 * (nI i - nI k).toInt64 + 1
def dnO (g : Nat → Int64) (n i : Nat) : Nat → Int64 := sm (fun k => eg g n k * 14549535 / dd i k)
def dnI (g : Nat → Int64) (n : Nat) (h : Int32) (i : Nat) : Nat → Int64 := sm (fun k => eg g n k * 14549535 * dd i k / (dd i k * dd i k + 16 * h.toInt64 * h.toInt64))
def dnS (E : Ev) (g : Nat → Int64) (i : Nat) : Int64 := dnO g (eN E) i (eN E + 1) / eY E - (if 0 < eH E then dnI g (eN E) (eH E) i (eN E + 1) else 0) / eY E + eA E i / eY E
def bnS (E : Ev) (g : Nat → Int64) (i : Nat) : Int64 := if eT E 88 (eW E) = 0 then 0 else sm (fun j => sm g (eN E) - sm g j) (i + 1) * (eV E).toInt64 * (eV E).toInt64 / ((eT E 88 (eW E)).toInt64 * 1000)
def anS (E : Ev) (g : Nat → Int64) (i : Nat) : Int64 := (eB E i).toInt64 - dnS E g i - (eT E 89 (eW E)).toInt64 * bnS E g i / 10
def lwT (T : Tx) (k : Nat) (x : Int64) : Int64 := valOf (T 77 k).toNatClampNeg (fun j => T 78 (8 * k + j)) (fun j => T 79 (8 * k + j)) x
def amS (E : Ev) (i : Nat) (x : Int64) : Int64 := (eT E 92 (10 * eW E + i)).toInt64 * lwT (eT E) (eT E 93 (10 * eW E + i)).toNatClampNeg x
def nxS (E : Ev) (g : Nat → Int64) (i : Nat) : Int64 := g i + (amS E i (anS E g i) - g i) / 2
def chS (E : Ev) (g : Nat → Int64) : Nat → Bool
  | 0 => false
  | j + 1 => chS E g j || !(decide (nxS E g j = g j))
def rnS (E : Ev) : Nat → Nat → (Nat → Int64) → Int32 × (Nat → Int64)
  | 0, _, g => (-2, g)
  | f + 1, k, g => if chS E g (eN E) = true then rnS E f (k + 1) (nxS E g) else (nI k, g)
def LwOK (T : Tx) (k : Nat) : Prop := ∃ n, T 77 k = nI n ∧ LawOK n (fun j => T 78 (8 * k + j)) (fun j => T 79 (8 * k + j))
def StOK (T : Tx) (q : Nat) : Prop := (1 ≤ (T 92 q).toInt ∧ (T 92 q).toInt ≤ 9) ∧ (∃ k, k < 8 ∧ T 93 q = nI k ∧ LwOK T k) ∧ (∃ k, k < 8 ∧ T 94 q = nI k ∧ LwOK T k) ∧ (-30 ≤ (T 95 q).toInt ∧ (T 95 q).toInt ≤ 30) ∧ (T 96 q = -1 ∨ ∃ h, h < 4 ∧ T 96 q = nI h)
def WgOK (T : Tx) (w : Nat) : Prop := (∃ n, T 86 w = nI n ∧ 1 ≤ n ∧ n ≤ 10 ∧ ∀ i, i < n → StOK T (10 * w + i)) ∧ (50 ≤ (T 87 w).toInt ∧ (T 87 w).toInt ≤ 2000) ∧ (0 ≤ (T 88 w).toInt ∧ (T 88 w).toInt ≤ 2000) ∧ (-9 ≤ (T 89 w).toInt ∧ (T 89 w).toInt ≤ 9) ∧ (T 90 w = 0 ∨ T 90 w = 1) ∧ (T 90 w = 1 → ∀ j, j < 4 → 1 ≤ (T 91 (4 * w + j)).toInt ∧ (T 91 (4 * w + j)).toInt ≤ 2000)
theorem WgOK.n {T : Tx} {w : Nat} (h : WgOK T w) : T 86 w = nI (wN T w) ∧ 1 ≤ wN T w ∧ wN T w ≤ 10 ∧ ∀ i, i < wN T w → StOK T (10 * w + i) := by
  obtain ⟨n, h1, h2, h3, h4⟩ := h.1
  have e : wN T w = n := by rw [wN, h1, nI_clamp (by omega)]
  rw [e]
  exact ⟨h1, h2, h3, h4⟩
theorem LwOK.n {T : Tx} {k : Nat} (h : LwOK T k) : T 77 k = nI (T 77 k).toNatClampNeg ∧ LawOK (T 77 k).toNatClampNeg (fun j => T 78 (8 * k + j)) (fun j => T 79 (8 * k + j)) := by
  obtain ⟨n, h1, h2⟩ := h
  have h8 := h2.2.1
  have e : (T 77 k).toNatClampNeg = n := by rw [h1, nI_clamp (by omega)]
  rw [e]
  exact ⟨h1, h2⟩
theorem td_btw {a b c : Int} (h0 : 0 ≤ b) (h1 : b ≤ c) (hc : 0 < c) : (0 ≤ a → 0 ≤ (a * b).tdiv c ∧ (a * b).tdiv c ≤ a) ∧ (a ≤ 0 → a ≤ (a * b).tdiv c ∧ (a * b).tdiv c ≤ 0) := by
  have key : ∀ a : Int, 0 ≤ a → 0 ≤ (a * b).tdiv c ∧ (a * b).tdiv c ≤ a := by
    intro a ha
    rw [Int.tdiv_eq_ediv_of_nonneg (Int.mul_nonneg ha h0)]
    exact ⟨Int.ediv_nonneg (Int.mul_nonneg ha h0) (Int.le_of_lt hc), Int.ediv_le_of_le_mul hc (Int.mul_le_mul_of_nonneg_left h1 ha)⟩
  refine ⟨key a, fun ha => ?_⟩
  have h2 := key (-a) (by omega)
  rw [Int.neg_mul, Int.neg_tdiv] at h2
  omega
theorem hv_btw {x y : Int} (B : Int) (hx : -B ≤ x ∧ x ≤ B) (hy : -B ≤ y ∧ y ≤ B) : -B ≤ x + (y - x).tdiv 2 ∧ x + (y - x).tdiv 2 ≤ B := by
  rcases Int.le_total 0 (y - x) with h | h
  · rw [Int.tdiv_eq_ediv_of_nonneg h]; omega
  · have e : (y - x).tdiv 2 = -((x - y) / 2) := by
      rw [show y - x = -(x - y) by omega, Int.neg_tdiv, Int.tdiv_eq_ediv_of_nonneg (by omega)]
    rw [e]; omega
theorem vGo_bd {n : Nat} {x y : Nat → Int32} {a : Int64} (hO : LawOK n x y) : ∀ (f k : Nat), k + 1 + f = n → (x k).toInt64 ≤ a → -999 ≤ (vGo x y a f k).toInt ∧ (vGo x y a f k).toInt ≤ 999 := by
  intro f
  induction f with
  | zero =>
    intro k hk _
    have := hO.2.2.1 k (by omega)
    rw [vGo, I_l]
    omega
  | succ f ih =>
    intro k hk hl
    have h0 := hO.2.2.1 k (by omega)
    have h1 := hO.2.2.1 (k + 1) (by omega)
    have h2 := hO.2.2.2 k (by omega)
    rw [vGo]
    by_cases c : a < (x (k + 1)).toInt64
    · rw [if_pos c]
      rw [Int64.lt_iff_toInt_lt, I_l] at c
      rw [Int64.le_iff_toInt_le, I_l] at hl
      have eY : ((y (k + 1) - y k).toInt64).toInt = (y (k + 1)).toInt - (y k).toInt := by rw [I_l, I_sub (by omega)]
      have eX : ((x (k + 1)).toInt64 - (x k).toInt64).toInt = (x (k + 1)).toInt - (x k).toInt := by rw [J_sub (by rw [I_l, I_l]; omega), I_l, I_l]
      have eA : (a - (x k).toInt64).toInt = a.toInt - (x k).toInt := by rw [J_sub (by rw [I_l]; omega), I_l]
      have hp1 : -(1998 * 180) ≤ ((y (k + 1)).toInt - (y k).toInt) * (a.toInt - (x k).toInt) ∧ ((y (k + 1)).toInt - (y k).toInt) * (a.toInt - (x k).toInt) ≤ 1998 * 180 := by
        generalize hA : (y (k + 1)).toInt - (y k).toInt = A
        generalize hB : a.toInt - (x k).toInt = B
        have b1 : 0 ≤ B := by omega
        have b2 : B ≤ 180 := by omega
        have a1 : -1998 ≤ A := by omega
        have a2 : A ≤ 1998 := by omega
        have q1 : A * B ≤ 1998 * B := Int.mul_le_mul_of_nonneg_right a2 b1
        have q2 : -1998 * B ≤ A * B := Int.mul_le_mul_of_nonneg_right a1 b1
        omega
      have eM : ((y (k + 1) - y k).toInt64 * (a - (x k).toInt64)).toInt = ((y (k + 1)).toInt - (y k).toInt) * (a.toInt - (x k).toInt) := by
        rw [J_mul (by rw [eY, eA]; omega), eY, eA]
      have eQ : ((y (k + 1) - y k).toInt64 * (a - (x k).toInt64) / ((x (k + 1)).toInt64 - (x k).toInt64)).toInt = (((y (k + 1)).toInt - (y k).toInt) * (a.toInt - (x k).toInt)).tdiv ((x (k + 1)).toInt - (x k).toInt) := by
        rw [J_div (by rw [eM]; omega), eM, eX]
      have hb := td_btw (a := (y (k + 1)).toInt - (y k).toInt) (b := a.toInt - (x k).toInt) (c := (x (k + 1)).toInt - (x k).toInt) (by omega) (by omega) (by omega)
      generalize (((y (k + 1)).toInt - (y k).toInt) * (a.toInt - (x k).toInt)).tdiv ((x (k + 1)).toInt - (x k).toInt) = q at eQ hb
      have hq : -999 ≤ (y k).toInt + q ∧ (y k).toInt + q ≤ 999 := by
        rcases Int.le_total 0 ((y (k + 1)).toInt - (y k).toInt) with g | g
        · have := hb.1 g; omega
        · have := hb.2 g; omega
      rw [J_add (by rw [eQ, I_l]; omega), eQ, I_l]
      exact hq
    · rw [if_neg c]
      exact ih (k + 1) (by omega) (Int64.not_lt.mp c)
theorem valOf_bd {n : Nat} {x y : Nat → Int32} {a : Int64} (hO : LawOK n x y) : -999 ≤ (valOf n x y a).toInt ∧ (valOf n x y a).toInt ≤ 999 := by
  have h2 := hO.1
  rw [valOf]
  by_cases c : a < (x 0).toInt64
  · rw [if_pos c, I_l]
    have := hO.2.2.1 0 (by omega)
    omega
  · rw [if_neg c]
    exact vGo_bd hO (n - 1) 0 (by omega) (Int64.not_lt.mp c)
theorem am_bd {E : Ev} {i : Nat} {x : Int64} (h : StOK (eT E) (10 * eW E + i)) : -8991 ≤ (amS E i x).toInt ∧ (amS E i x).toInt ≤ 8991 := by
  obtain ⟨hw, ⟨k, hk, e, hl⟩, -⟩ := h
  have hb := valOf_bd (a := x) hl.n.2
  rw [amS, e, nI_clamp (by omega)]
  have hb : -999 ≤ (lwT (eT E) k x).toInt ∧ (lwT (eT E) k x).toInt ≤ 999 := hb
  generalize lwT (eT E) k x = z at hb
  have q : -8991 ≤ (eT E 92 (10 * eW E + i)).toInt * z.toInt ∧ (eT E 92 (10 * eW E + i)).toInt * z.toInt ≤ 8991 := by
    generalize (eT E 92 (10 * eW E + i)).toInt = W at hw
    generalize z.toInt = Z at hb
    have q1 : W * Z ≤ W * 999 := Int.mul_le_mul_of_nonneg_left hb.2 (by omega)
    have q2 : W * (-999) ≤ W * Z := Int.mul_le_mul_of_nonneg_left hb.1 (by omega)
    omega
  rw [J_mul (by rw [I_l]; omega), I_l]
  exact q
def GB (n : Nat) (g : Nat → Int64) : Prop := ∀ i, i < n → -8991 ≤ (g i).toInt ∧ (g i).toInt ≤ 8991
theorem nx_bd {E : Ev} {g : Nat → Int64} (hE : WgOK (eT E) (eW E)) (hg : GB (eN E) g) : GB (eN E) (nxS E g) := by
  intro i hi
  have h1 := am_bd (x := anS E g i) (hE.n.2.2.2 i hi)
  have h2 := hg i hi
  rw [nxS]
  generalize amS E i (anS E g i) = A at h1
  generalize g i = G at h2
  have e1 : (A - G).toInt = A.toInt - G.toInt := J_sub (by omega)
  have e2 : ((A - G) / 2).toInt = (A.toInt - G.toInt).tdiv 2 := by
    rw [J_div (by rw [e1]; omega), e1]
    rfl
  have h3 := hv_btw 8991 h2 h1
  rw [J_add (by rw [e2]; omega), e2]
  exact h3
theorem rn_bd {E : Ev} (hE : WgOK (eT E) (eW E)) : ∀ (f k : Nat) (g : Nat → Int64), GB (eN E) g → GB (eN E) (rnS E f k g).2 := by
  intro f
  induction f with
  | zero => intro k g hg; exact hg
  | succ f ih =>
    intro k g hg
    rw [rnS]
    by_cases c : chS E g (eN E) = true
    · rw [if_pos c]; exact ih (k + 1) _ (nx_bd hE hg)
    · rw [if_neg c]; exact hg
theorem rn_val {E : Ev} : ∀ (f k : Nat) (g : Nat → Int64), k + f ≤ 121 → 1 ≤ k → (rnS E f k g).1 = -2 ∨ ∃ j, k ≤ j ∧ j ≤ 120 ∧ (rnS E f k g).1 = nI j := by
  intro f
  induction f with
  | zero => intro k g _ _; exact Or.inl rfl
  | succ f ih =>
    intro k g hk h1
    rw [rnS]
    by_cases c : chS E g (eN E) = true
    · rw [if_pos c]
      rcases ih (k + 1) (nxS E g) (by omega) (by omega) with h | ⟨j, a, b, e⟩
      · exact Or.inl h
      · exact Or.inr ⟨j, by omega, b, e⟩
    · rw [if_neg c]
      exact Or.inr ⟨k, Nat.le_refl _, by omega, rfl⟩
