/-! SMALL METHODS: ranges, texts and wings by number -/
def inR (a b v : Int32) : Bool := decide (a ≤ v) && decide (v ≤ b)
theorem inR_t {a b v : Int32} : inR a b v = true ↔ a ≤ v ∧ v ≤ b := by simp [inR]
theorem inR_f {a b v : Int32} : inR a b v = false ↔ v < a ∨ b < v := by
  rw [← Bool.not_eq_true, inR_t]
  by_cases h : a ≤ v
  · simp [h, Int32.not_lt.mpr h, Int32.not_le]
  · simp [h, Int32.not_le.mp h]
theorem inR_l {a b v : Int32} (h : v < a) : inR a b v = false := inR_f.mpr (Or.inl h)
theorem inR_r {a b v : Int32} (h : b < v) : inR a b v = false := inR_f.mpr (Or.inr h)
theorem inR_m {a b v : Int32} (h : ¬ v < a) (g : ¬ b < v) : inR a b v = true := inR_t.mpr ⟨Int32.not_lt.mp h, Int32.not_lt.mp g⟩
theorem c_WH_isSpeed (Ω : Om) (M : Mem) (v : Int32) (K : Ka) (h : K (some (vI (bI (inR 1 40 v)))) M) : CallS Ω true m_WH_isSpeed [vI v] M K := by
  refine call_go (hJL rfl) (Nat.le_of_ble_eq_true rfl) (go_wp ok_WH_isSpeed [] 250 _ _ _ _ _ _ ?_)
  refine And.intro (fun a => ?_) (fun a => And.intro (fun b => ?_) (fun b => ?_))
  · rw [inR_l a] at h; exact ⟨Or.inl rfl, h⟩
  · rw [inR_r b] at h; exact ⟨Or.inl rfl, h⟩
  · rw [inR_m a b] at h; exact ⟨Or.inr rfl, h⟩
theorem c_WH_isSlant (Ω : Om) (M : Mem) (v : Int32) (K : Ka) (h : K (some (vI (bI (inR (-30) 30 v)))) M) : CallS Ω true m_WH_isSlant [vI v] M K := by
  refine call_go (hJL rfl) (Nat.le_of_ble_eq_true rfl) (go_wp ok_WH_isSlant [] 250 _ _ _ _ _ _ ?_)
  refine And.intro (fun a => ?_) (fun a => And.intro (fun b => ?_) (fun b => ?_))
  · rw [inR_l a] at h; exact ⟨Or.inl rfl, h⟩
  · rw [inR_r b] at h; exact ⟨Or.inl rfl, h⟩
  · rw [inR_m a b] at h; exact ⟨Or.inr rfl, h⟩
theorem c_MD_in (Ω : Om) (M : Mem) (v a b : Int32) (K : Ka) (h : K (some (vI (bI (inR a b v)))) M) : CallS Ω true m_MD_in [vI v, vI a, vI b] M K := by
  refine call_go (hJL rfl) (Nat.le_of_ble_eq_true rfl) (go_wp ok_MD_in [] 250 _ _ _ _ _ _ ?_)
  refine And.intro (fun a => ?_) (fun a => And.intro (fun b => ?_) (fun b => ?_))
  · rw [inR_l a] at h; exact ⟨Or.inl rfl, h⟩
  · rw [inR_r b] at h; exact ⟨Or.inl rfl, h⟩
  · rw [inR_m a b] at h; exact ⟨Or.inr rfl, h⟩
theorem c_MD_isSpeed (Ω : Om) (M : Mem) (v : Int32) (K : Ka) (h : K (some (vI (bI (inR 1 40 v)))) M) : CallS Ω true m_MD_isSpeed [vI v] M K := by
  refine call_go (hJL rfl) (Nat.le_of_ble_eq_true rfl) (go_wp ok_MD_isSpeed [] 250 _ _ _ _ _ _ ?_)
  conv => whnf
  refine cl_use (fun K h => c_MD_in Ω M v 1 40 K h) trivial ?_
  conv => whnf
  exact ⟨bI_01 _, h⟩
theorem c_MD_isSlant (Ω : Om) (M : Mem) (v : Int32) (K : Ka) (h : K (some (vI (bI (inR (-30) 30 v)))) M) : CallS Ω true m_MD_isSlant [vI v] M K := by
  refine call_go (hJL rfl) (Nat.le_of_ble_eq_true rfl) (go_wp ok_MD_isSlant [] 250 _ _ _ _ _ _ ?_)
  conv => whnf
  refine cl_use (fun K h => c_MD_in Ω M v (-30) 30 K h) trivial ?_
  conv => whnf
  exact ⟨bI_01 _, h⟩
def ovS (a b : Int64) : Int64 := if b = 0 then 0 else a / b
theorem c_WH_over (Ω : Om) (M : Mem) (a b : Int64) (K : Ka) (h : K (some (vJ (ovS a b))) M) : CallS Ω true m_WH_over [vJ a, vJ b] M K := by
  refine call_go (hJL rfl) (Nat.le_of_ble_eq_true rfl) (go_wp ok_WH_over [] 250 _ _ _ _ _ _ ?_)
  refine And.intro (fun g => ?_) (fun g => ?_)
  · have g : ¬ b = 0 := fun e => g ((lg_cmp_eq _ _).mpr e)
    conv => whnf
    rw [ovS, if_neg g] at h
    exact ⟨g, h⟩
  · have g : b = 0 := (lg_cmp_eq _ _).mp g
    rw [ovS, if_pos g] at h
    exact h
/-- a number within 0 .. n - 1, or none such -/
theorem nI_cases (x : Int32) {n : Nat} (hn : n < 2 ^ 31) : (∃ j, j < n ∧ x = nI j) ∨ ∀ j, j < n → x ≠ nI j := by
  rcases pk_ix x hn with h | h | h
  · refine Or.inr (fun j hj e => ?_)
    subst e
    exact absurd h (nI_pos (by omega))
  · refine Or.inr (fun j hj e => ?_)
    subst e
    rw [nI_leI (by omega) (by omega)] at h
    omega
  · exact Or.inl h
theorem nI_no {x : Int32} {n : Nat} (hn : n < 2 ^ 31) (h : ∀ j, j < n → x ≠ nI j) : x < 0 ∨ nI n ≤ x := by
  rcases pk_ix x hn with a | a | ⟨j, hj, e⟩
  · exact Or.inl a
  · exact Or.inr a
  · exact absurd e (h j hj)
theorem inR_n {x : Int32} {n : Nat} (hn : n < 2 ^ 31) (h : ∀ j, j < n → x ≠ nI j) : inR 0 (nI n - 1) x = false := by
  rcases nI_no hn h with a | a
  · exact inR_l a
  · cases n with
    | zero =>
      by_cases g : x < 0
      · exact inR_l g
      · refine inR_r ?_
        have := Int32.not_lt.mp g
        rw [Int32.lt_iff_toInt_lt]
        rw [Int32.le_iff_toInt_le] at this
        rw [show (nI 0 - 1).toInt = -1 from rfl]
        rw [show (0 : Int32).toInt = 0 from rfl] at this
        omega
    | succ n =>
      refine inR_r ?_
      rw [nI_pred]
      exact Int32.lt_of_lt_of_le (nI_lt (Nat.lt_succ_self n) hn) a
theorem inR_y {n j : Nat} (hn : n < 2 ^ 31) (h : j < n) : inR 0 (nI n - 1) (nI j) = true := by
  cases n with
  | zero => omega
  | succ n =>
    refine inR_t.mpr ⟨nI_pos' (by omega), ?_⟩
    rw [nI_pred]
    exact nI_le (by omega) (by omega)
theorem c_textOf1 (Ω : Om) (M : Mem) (nt t : Nat) (K : Ka) (h4 : nt ≤ 4) (hc : mI M 11 0 4 = nI nt) (ht : t < nt) (h : K (some (vR (some (7, t)))) M) : CallS Ω true m_WH_textOf [vR (some (11, 0)), vI (nI t)] M K := by
  refine call_go (hJL rfl) (Nat.le_of_ble_eq_true rfl) (go_wp ok_WH_textOf [] 250 _ _ _ _ _ _ ?_)
  refine And.intro (fun a => absurd a (nI_pos (by omega))) (fun _ => ?_)
  refine And.intro (fun a => ?_) (fun _ => And.intro (fun a => ?_) (fun _ => ?_))
  · rw [hc, nI_leI (by omega) (by omega)] at a
    omega
  · exact absurd a (nI_ge (b := 4) (by omega) (by decide))
  · conv => whnf
    refine And.intro (vp_in_nI (by omega) (by decide)) ?_
    rw [nI_clamp (by omega), rr_text (by omega)]
    exact h
theorem c_textOf0 (Ω : Om) (M : Mem) (nt : Nat) (x : Int32) (K : Ka) (h4 : nt ≤ 4) (hc : mI M 11 0 4 = nI nt) (ht : ∀ t, t < nt → x ≠ nI t) (h : K (some (vR none)) M) : CallS Ω true m_WH_textOf [vR (some (11, 0)), vI x] M K := by
  refine call_go (hJL rfl) (Nat.le_of_ble_eq_true rfl) (go_wp ok_WH_textOf [] 250 _ _ _ _ _ _ ?_)
  refine And.intro (fun a => h) (fun a => ?_)
  refine And.intro (fun a => h) (fun b => ?_)
  rcases nI_no (by omega) ht with c | c
  · exact absurd c a
  · rw [hc] at b; exact absurd c b
theorem c_wingNum1 (Ω : Om) (M : Mem) (t nw w : Nat) (K : Ka) (h4 : nw ≤ 4) (hc : mI M 7 t 6 = nI nw) (hw : w < nw) (h : K (some (vR (some (10, 4 * t + w)))) M) : CallS Ω true m_Text_wingNumbered [vR (some (7, t)), vI (nI w)] M K := by
  refine call_go (hJL rfl) (Nat.le_of_ble_eq_true rfl) (go_wp ok_Text_wingNumbered [] 250 _ _ _ _ _ _ ?_)
  refine And.intro (fun a => absurd a (nI_pos (by omega))) (fun _ => ?_)
  refine And.intro (fun a => ?_) (fun _ => And.intro (fun a => ?_) (fun _ => ?_))
  · rw [hc, nI_leI (by omega) (by omega)] at a
    omega
  · exact absurd a (nI_ge (b := 4) (by omega) (by decide))
  · conv => whnf
    refine And.intro (vp_in_nI (by omega) (by decide)) ?_
    rw [nI_clamp (by omega), rr_wing (by omega)]
    exact h
theorem c_wingNum0 (Ω : Om) (M : Mem) (t nw : Nat) (x : Int32) (K : Ka) (h4 : nw ≤ 4) (hc : mI M 7 t 6 = nI nw) (hw : ∀ w, w < nw → x ≠ nI w) (h : K (some (vR none)) M) : CallS Ω true m_Text_wingNumbered [vR (some (7, t)), vI x] M K := by
  refine call_go (hJL rfl) (Nat.le_of_ble_eq_true rfl) (go_wp ok_Text_wingNumbered [] 250 _ _ _ _ _ _ ?_)
  refine And.intro (fun a => h) (fun a => ?_)
  refine And.intro (fun a => h) (fun b => ?_)
  rcases nI_no (by omega) hw with c | c
  · exact absurd c a
  · rw [hc] at b; exact absurd c b
theorem c_wingOf1 (Ω : Om) (M : Mem) (t nw w : Nat) (K : Ka) (h4 : nw ≤ 4) (hc : mI M 7 t 6 = nI nw) (hw : w < nw) (h : K (some (vR (some (10, 4 * t + w)))) M) : CallS Ω true m_WH_wingOf [vR (some (7, t)), vI (nI w)] M K := by
  refine call_go (hJL rfl) (Nat.le_of_ble_eq_true rfl) (go_wp ok_WH_wingOf [] 250 _ _ _ _ _ _ ?_)
  conv => whnf
  refine cl_use (fun K h => c_wingNum1 Ω M t nw w K h4 hc hw h) trivial ?_
  exact h
theorem c_wingOf0 (Ω : Om) (M : Mem) (t nw : Nat) (x : Int32) (K : Ka) (h4 : nw ≤ 4) (hc : mI M 7 t 6 = nI nw) (hw : ∀ w, w < nw → x ≠ nI w) (h : K (some (vR none)) M) : CallS Ω true m_WH_wingOf [vR (some (7, t)), vI x] M K := by
  refine call_go (hJL rfl) (Nat.le_of_ble_eq_true rfl) (go_wp ok_WH_wingOf [] 250 _ _ _ _ _ _ ?_)
  conv => whnf
  refine cl_use (fun K h => c_wingNum0 Ω M t nw x K h4 hc hw h) trivial ?_
  exact h
theorem c_wingOfN (Ω : Om) (M : Mem) (x : Int32) (K : Ka) (h : K (some (vR none)) M) : CallS Ω true m_WH_wingOf [vR none, vI x] M K := by
  refine call_go (hJL rfl) (Nat.le_of_ble_eq_true rfl) (go_wp ok_WH_wingOf [] 250 _ _ _ _ _ _ ?_)
  exact h
/-- the model's row of a wing -/
theorem c_MD_rowN (Ω : Om) (M : Mem) (x : Int32) (K : Ka) (hh : mI M 12 0 19 = -1) (h : K (some (vI (-1))) M) : CallS Ω true m_MD_row [vR (some (12, 0)), vI x] M K := by
  refine call_go (hJL rfl) (Nat.le_of_ble_eq_true rfl) (go_wp ok_MD_row [] 250 _ _ _ _ _ _ ?_)
  exact And.intro (fun _ => h) (fun a => absurd hh a)
theorem nI_nm1 {n : Nat} (h : n < 2 ^ 31) : ¬ nI n = -1 := fun e => by
  have := congrArg Int32.toInt e
  rw [nI_toInt h, show (-1 : Int32).toInt = -1 from rfl] at this
  omega
theorem c_MD_row1 (Ω : Om) (M : Mem) (t nw w : Nat) (K : Ka) (ht : t < 4) (h4 : nw ≤ 4) (hh : mI M 12 0 19 = nI t) (hc : mI M 84 0 t = nI nw) (hw : w < nw) (h : K (some (vI (nI (4 * t + w)))) M) : CallS Ω true m_MD_row [vR (some (12, 0)), vI (nI w)] M K := by
  refine call_go (hJL rfl) (Nat.le_of_ble_eq_true rfl) (go_wp ok_MD_row [] 250 _ _ _ _ _ _ ?_)
  refine And.intro (fun a => absurd (hh.symm.trans a) (nI_nm1 (by omega))) (fun _ => ?_)
  conv => whnf
  rw [hh]
  refine And.intro (vp_in_nI (by omega) (by decide)) ?_
  rw [nI_clamp (by omega), hc]
  refine cl_use (fun K h => c_MD_in Ω M (nI w) 0 (nI nw - 1) K h) trivial ?_
  rw [inR_y (by omega) hw]
  conv => whnf
  refine And.intro (fun _ => ?_) (fun a => absurd a (by decide))
  conv => whnf
  rw [hh, show (4 : Int32) = nI 4 from rfl, pk_mul, nI_add]
  exact h
theorem c_MD_row0 (Ω : Om) (M : Mem) (t nw : Nat) (x : Int32) (K : Ka) (ht : t < 4) (h4 : nw ≤ 4) (hh : mI M 12 0 19 = nI t) (hc : mI M 84 0 t = nI nw) (hw : ∀ w, w < nw → x ≠ nI w) (h : K (some (vI (-1))) M) : CallS Ω true m_MD_row [vR (some (12, 0)), vI x] M K := by
  refine call_go (hJL rfl) (Nat.le_of_ble_eq_true rfl) (go_wp ok_MD_row [] 250 _ _ _ _ _ _ ?_)
  refine And.intro (fun a => absurd (hh.symm.trans a) (nI_nm1 (by omega))) (fun _ => ?_)
  conv => whnf
  rw [hh]
  refine And.intro (vp_in_nI (by omega) (by decide)) ?_
  rw [nI_clamp (by omega), hc]
  refine cl_use (fun K h => c_MD_in Ω M x 0 (nI nw - 1) K h) trivial ?_
  rw [inR_n (by omega) hw]
  conv => whnf
  exact And.intro (fun a => absurd rfl a) (fun _ => h)
