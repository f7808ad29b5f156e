/-! READ: tokens, the model's -/
def mkK (k : Nat) : Nat := if k = 0 then 0 else if k = 1 then 3 else if k = 2 then 1 else if k = 3 then 2 else if k = 4 then 11 else if k = 5 then 12 else if k = 6 then 13 else if k = 7 then 14 else if k = 40 then 6 else if k = 41 then 7 else if k = 42 then 10 else if k = 43 then 8 else if k = 44 then 16 else if k = 45 then 9 else if k = 47 then 15 else if k = 58 then 5 else if k = 59 then 4 else if k = 209 then 30 else if k = 210 then 29 else k - 180
/-- the word's kind as the model finds it: the last that is it -/
def mwL (w : Int64) : Nat → Nat → Nat → Nat
  | 0, _, k => k
  | f + 1, i, k => mwL w f (i + 1) (if iJ 73 i = w then 20 + i else k)
theorem mwL_no {w : Int64} (h : ∀ i, i < 22 → ¬ iJ 73 i = w) : ∀ f i k, i + f = 22 → mwL w f i k = k := by
  intro f
  induction f with
  | zero => intro i k _; rfl
  | succ f ih => intro i k hi; rw [mwL, if_neg (h i (by omega))]; exact ih (i + 1) k (by omega)
theorem wkR_no {w : Int64} (h : ∀ i, i < 22 → ¬ iJ 49 i = w) : ∀ f i, i + f = 22 → wkR w f i = 2 := by
  intro f
  induction f with
  | zero => intro i _; rfl
  | succ f ih => intro i hi; rw [wkR, if_neg (h i (by omega))]; exact ih (i + 1) (by omega)
def mwT : Bool := (List.range 22).all fun j => decide (mwL (iJ 49 j) 22 0 1 = mkK (wkR (iJ 49 j) 22 0)) && (decide ((iJ 49 j).toInt < 10460353203) && decide (iJ 73 j = iJ 49 (if j = 9 then 10 else if j = 10 then 9 else j)))
theorem mwT_ok : mwT = true := by decide +kernel
theorem mw_at {j : Nat} (h : j < 22) : mwL (iJ 49 j) 22 0 1 = mkK (wkR (iJ 49 j) 22 0) ∧ (iJ 49 j).toInt < 10460353203 ∧ iJ 73 j = iJ 49 (if j = 9 then 10 else if j = 10 then 9 else j) := by
  have q := List.all_eq_true.mp mwT_ok j (List.mem_range.mpr h)
  simp only [Bool.and_eq_true, decide_eq_true_eq] at q
  exact ⟨q.1, q.2.1, q.2.2⟩
theorem mw_eq (w : Int64) : mwL w 22 0 1 = mkK (wkR w 22 0) := by
  by_cases h : ∃ j, j < 22 ∧ iJ 49 j = w
  · obtain ⟨j, hj, rfl⟩ := h
    exact (mw_at hj).1
  · have h1 : ∀ i, i < 22 → ¬ iJ 49 i = w := fun i hi q => h ⟨i, hi, q⟩
    rw [wkR_no h1 22 0 rfl, mwL_no (fun i hi q => ?_) 22 0 1 rfl]
    · rfl
    · rw [(mw_at hi).2.2] at q
      exact h1 _ (by split; omega; split; omega; exact hi) q
/-- how great a word's number is -/
def wdB (l : Nat) (w : Int64) : Prop := (0 ≤ w.toInt ∧ w.toInt < 27 ^ (min l 8)) ∧ (1 ≤ l → 27 ^ (min l 8 - 1) ≤ w.toInt)
theorem ltV_b {w : Int64} {c : Nat} (hc : cLe c = true) (hw : 0 ≤ w.toInt ∧ w.toInt < 10460353203) : (ltV w c).toInt = w.toInt * 27 + (c : Int) - 96 := by
  have h1 := Nat.le_of_ble_eq_true (Bool.and_eq_true_iff.mp hc).1
  have h2 := Nat.le_of_ble_eq_true (Bool.and_eq_true_iff.mp hc).2
  have e1 : (nI c - 97 + 1 : Int32) = nI (c - 96) := by
    rw [show (97 : Int32) = nI 97 from rfl, pk_sub h1, nI_1, show c - 97 + 1 = c - 96 by omega]
  unfold ltV
  rw [e1]
  have e2 : ((nI (c - 96)).toInt64).toInt = (c : Int) - 96 := by rw [I_l, nI_toInt (by omega)]; omega
  have e3 : (w * 27).toInt = w.toInt * 27 := by
    rw [J_mul (by rw [show (27 : Int64).toInt = 27 from rfl]; omega)]; rfl
  rw [J_add (by rw [e2, e3]; omega), e2, e3]
  omega
theorem wd_bd {B : Nat → Nat} {n : Nat} : ∀ f a l w, wdB l w → wdB (wdR B n f a l w).2.1 (wdR B n f a l w).2.2 := by
  intro f
  induction f with
  | zero => intro a l w h; exact h
  | succ f ih =>
    intro a l w h
    rw [wdR]
    split
    next c =>
      refine ih (a + 1) (l + 1) _ ?_
      have hc := (Bool.and_eq_true_iff.mp c).2
      by_cases l8 : l < 8
      · rw [if_pos l8]
        obtain ⟨⟨h1, h2⟩, h3⟩ := h
        rw [show min l 8 = l by omega] at h2 h3
        have hb : (27 : Int) ^ l ≤ 10460353203 := by
          have : (27 : Int) ^ l ≤ 27 ^ 7 := by
            have h7 : (27 : Nat) ^ l ≤ 27 ^ 7 := Nat.pow_le_pow_right (by decide) (by omega)
            exact_mod_cast h7
          exact Int.le_trans this (by decide)
        have e := ltV_b hc ⟨h1, by omega⟩
        have h97 := Nat.le_of_ble_eq_true (Bool.and_eq_true_iff.mp hc).1
        have h122 := Nat.le_of_ble_eq_true (Bool.and_eq_true_iff.mp hc).2
        unfold wdB
        rw [e, show min (l + 1) 8 = l + 1 by omega, show l + 1 - 1 = l by omega, Int.pow_succ]
        refine ⟨⟨by omega, by omega⟩, fun _ => ?_⟩
        cases l with
        | zero => simp; omega
        | succ l =>
          have := h3 (by omega)
          rw [show l + 1 - 1 = l by omega] at this
          rw [Int.pow_succ]
          omega
      · rw [if_neg l8]
        obtain ⟨h1, h3⟩ := h
        unfold wdB
        rw [show min l 8 = 8 by omega] at h1 h3
        rw [show min (l + 1) 8 = 8 by omega]
        exact ⟨h1, fun _ => h3 (by omega)⟩
    next => exact h
/-- a word of eight letters is none of the words -/
theorem wk_8 {w : Int64} (h : 10460353203 ≤ w.toInt) : wkR w 22 0 = 2 := by
  refine wkR_no (fun i hi q => ?_) 22 0 rfl
  have := (mw_at hi).2.1
  rw [q] at this
  omega
def TpM (M : Mem) (B : Nat → Nat) (n : Nat) : Prop := mI M 12 0 4 = nI n ∧ n ≤ 2000 ∧ (∀ i, i < n → mI M 68 0 i &&& 255 = nI (B i) ∧ B i < 256) ∧ ∀ s, s < 22 → mJ M 73 0 s = iJ 73 s
def bZ (B : Nat → Nat) (n i : Nat) : Int32 := if i < n then nI (B i) else 0
theorem bZ_le {B : Nat → Nat} {n i : Nat} (hB : i < n → B i < 256) : inR 97 122 (bZ B n i) = (Nat.ble (i + 1) n && cLe (B i)) := by
  unfold bZ
  by_cases c : i < n
  · rw [if_pos c, Nat.ble_eq.mpr (show i + 1 ≤ n from c), Bool.true_and]
    have := hB c
    exact inR_c (a := 97) (b := 122) (by decide) (by decide) (by omega)
  · rw [if_neg c, show Nat.ble (i + 1) n = false from Bool.eq_false_iff.mpr (fun q => c (Nat.le_of_ble_eq_true q))]
    rfl
theorem bZ_di {B : Nat → Nat} {n i : Nat} (hB : i < n → B i < 256) : inR 48 57 (bZ B n i) = (Nat.ble (i + 1) n && cDi (B i)) := by
  unfold bZ
  by_cases c : i < n
  · rw [if_pos c, Nat.ble_eq.mpr (show i + 1 ≤ n from c), Bool.true_and]
    have := hB c
    exact inR_c (a := 48) (b := 57) (by decide) (by decide) (by omega)
  · rw [if_neg c, show Nat.ble (i + 1) n = false from Bool.eq_false_iff.mpr (fun q => c (Nat.le_of_ble_eq_true q))]
    rfl
theorem c_MD_at (Ω : Om) (M : Mem) (B : Nat → Nat) (n i : Nat) (K : Ka) (hT : TpM M B n) (hi : i ≤ 3000) (h : K (some (vI (bZ B n i))) M) : CallS Ω true m_MD_at [vR (some (12, 0)), vI (nI i)] M K := by
  obtain ⟨t2, t3, t4, -⟩ := hT
  refine call_go (hJL rfl) (Nat.le_of_ble_eq_true rfl) (go_wp ok_MD_at [] 250 _ _ _ _ _ _ ?_)
  refine And.intro (fun a => ?_) (fun a => ?_)
  · rw [t2, nI_leI (by omega) (by omega)] at a
    unfold bZ at h
    rw [if_neg (by omega)] at h
    exact h
  · have hin : i < n := by
      rw [t2, nI_leI (by omega) (by omega)] at a
      omega
    unfold bZ at h
    rw [if_pos hin] at h
    conv => whnf
    refine And.intro (vp_in_nI (by omega) (by decide)) ?_
    rw [nI_clamp (by omega)]
    conv => whnf
    rw [← (t4 i hin).1] at h
    exact h
theorem c_MD_isLetter (Ω : Om) (M : Mem) (v : Int32) (K : Ka) (h : K (some (vI (bI (inR 97 122 v)))) M) : CallS Ω true m_MD_isLetter [vI v] M K := by
  refine call_go (hJL rfl) (Nat.le_of_ble_eq_true rfl) (go_wp ok_MD_isLetter [] 250 _ _ _ _ _ _ ?_)
  refine And.intro (fun a => ?_) (fun a => And.intro (fun b => ?_) (fun b => ?_))
  · rw [inR_l a] at h; exact ⟨Or.inl rfl, h⟩
  · rw [inR_r b] at h; exact ⟨Or.inl rfl, h⟩
  · rw [inR_m a b] at h; exact ⟨Or.inr rfl, h⟩
theorem c_MD_isDigit (Ω : Om) (M : Mem) (v : Int32) (K : Ka) (h : K (some (vI (bI (inR 48 57 v)))) M) : CallS Ω true m_MD_isDigit [vI v] M K := by
  refine call_go (hJL rfl) (Nat.le_of_ble_eq_true rfl) (go_wp ok_MD_isDigit [] 250 _ _ _ _ _ _ ?_)
  refine And.intro (fun a => ?_) (fun a => And.intro (fun b => ?_) (fun b => ?_))
  · rw [inR_l a] at h; exact ⟨Or.inl rfl, h⟩
  · rw [inR_r b] at h; exact ⟨Or.inl rfl, h⟩
  · rw [inR_m a b] at h; exact ⟨Or.inr rfl, h⟩
theorem c_MD_more' (Ω : Om) (M : Mem) (w : Int64) (c : Nat) (K : Ka) (hc : 97 ≤ c ∧ c < 256) (h : K (some (vJ (ltV w c))) M) : CallS Ω true m_MD_more [vJ w, vI (nI c)] M K := by
  refine call_go (hJL rfl) (Nat.le_of_ble_eq_true rfl) (go_wp ok_MD_more [] 250 _ _ _ _ _ _ ?_)
  refine And.intro (fun _ => ?_) (fun q => ?_)
  · conv => whnf
    unfold ltV at h
    rw [Int64.mul_comm] at h
    exact h
  · have := (nI_eq (b := 0) (by omega) (by decide)).mp q
    omega
theorem c_MD_token (Ω : Om) (M : Mem) (i : Nat) (kd_ p v : Int32) (nm : Int64) (K : Ka) (hi : i < 503) (h10 : mI M 12 0 10 = nI i) (h : K none (sI (sJ (sI (sI (sI M 69 0 i kd_) 70 0 i p) 71 0 i v) 72 0 i nm) 12 0 10 (nI (i + 1)))) : CallS Ω true m_MD_token [vR (some (12, 0)), vI kd_, vI p, vI v, vJ nm] M K := by
  refine call_go (hJL rfl) (Nat.le_of_ble_eq_true rfl) (go_wp ok_MD_token [] 250 _ _ _ _ _ _ ?_)
  conv => whnf
  rw [h10]
  refine And.intro (vp_in_nI (by omega) (by decide)) ?_
  rw [nI_clamp (by omega)]
  conv => whnf
  rw [mI_ne rfl, h10]
  refine And.intro (vp_in_nI (by omega) (by decide)) ?_
  rw [nI_clamp (by omega)]
  conv => whnf
  rw [mI_ne rfl, mI_ne rfl, h10]
  refine And.intro (vp_in_nI (by omega) (by decide)) ?_
  rw [nI_clamp (by omega)]
  conv => whnf
  rw [mI_ne rfl, mI_ne rfl, mI_ne rfl, h10]
  refine And.intro (vp_in_nI (by omega) (by decide)) ?_
  rw [nI_clamp (by omega)]
  conv => whnf
  rw [mI_sJ, mI_ne rfl, mI_ne rfl, mI_ne rfl, h10, nI_1]
  exact h
